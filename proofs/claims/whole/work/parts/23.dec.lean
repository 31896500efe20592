/-! ===== printed by wip/gen/gen.py: methods as functions, and that the machine runs so ===== -/
-- RentByTheWheelModel.letter()I (89,)
def d_M_letter  (V : ai_V) : Option (Int32 × ai_V) :=
  (d_M_fine  V).bind fun q1 => (if ¬ q1 = 0 then ((d_M_here  V).bind fun q2 => ((d_M_in q2 (97 : Int32) (102 : Int32) V).bind fun q3 => (if ¬ q3 = 0 then (if gr (si V 89 18 ((gi V 89 18) + (1 : Int32))) 89 15 = some 96 then (if ai_in ((gi (si V 89 18 ((gi V 89 18) + (1 : Int32))) 89 18) - (1 : Int32)) 80 then (some (((ga (si V 89 18 ((gi V 89 18) + (1 : Int32))) 96 (((gi (si V 89 18 ((gi V 89 18) + (1 : Int32))) 89 18) - (1 : Int32))).toNatClampNeg) - (97 : Int32)), (si V 89 18 ((gi V 89 18) + (1 : Int32))))) else none) else (if gr (si V 89 18 ((gi V 89 18) + (1 : Int32))) 89 15 = some 99 then (if ai_in ((gi (si V 89 18 ((gi V 89 18) + (1 : Int32))) 89 18) - (1 : Int32)) 40 then (some (((ga (si V 89 18 ((gi V 89 18) + (1 : Int32))) 99 (((gi (si V 89 18 ((gi V 89 18) + (1 : Int32))) 89 18) - (1 : Int32))).toNatClampNeg) - (97 : Int32)), (si V 89 18 ((gi V 89 18) + (1 : Int32))))) else none) else (none))) else ((d_M_fault (gi V 89 18) V).bind fun q4 => (some ((0 : Int32), q4)))))) else (some ((0 : Int32), V)))
set_option maxRecDepth 20000 in
theorem t_M_letter {X : ai_S} {e : Nat} (hd : 2 ≤ e)  {V : ai_V} {r : (Int32 × ai_V)} (h : d_M_letter  V = some r) : Rn e 197 0 (lv_args 0 [.ref 89]) [] (SH ++ X) V (some (.int r.1)) (SH ++ X) r.2 := by
  rw [d_M_letter] at h
  refine rn_go 1 (pc' := 1) (l' := [(0, .ref 89)]) (st' := [.ref 89]) (S1 := (SH ++ X)) (V1 := V) rfl ?_
  obtain ⟨q1, hq1, h⟩ := ai_bd h
  refine rn_call rfl rfl rfl rfl rfl rfl (by omega) (t_M_fine (by omega) hq1) ?_
  rcases ai_if h with ⟨hc, h⟩ | ⟨hc, h⟩
  · refine rn_brT rfl rfl rfl rfl hc ?_
    refine rn_go 1 (pc' := 10) (l' := [(0, .ref 89)]) (st' := [.ref 89]) (S1 := (SH ++ X)) (V1 := V) rfl ?_
    obtain ⟨q2, hq2, h⟩ := ai_bd h
    refine rn_call rfl rfl rfl rfl rfl rfl (by omega) (t_M_here (by omega) hq2) ?_
    refine rn_go 2 (pc' := 17) (l' := [(0, .ref 89)]) (st' := [.int (102 : Int32), .int (97 : Int32), .int q2]) (S1 := (SH ++ X)) (V1 := V) rfl ?_
    obtain ⟨q3, hq3, h⟩ := ai_bd h
    refine rn_call rfl rfl rfl rfl rfl rfl (by omega) (t_M_in (by omega) hq3) ?_
    rcases ai_if h with ⟨hc, h⟩ | ⟨hc, h⟩
    · refine rn_brT rfl rfl rfl rfl hc ?_
      refine rn_go 7 (pc' := 44) (l' := [(0, .ref 89)]) (st' := [.ref 89]) (S1 := (SH ++ X)) (V1 := (si V 89 18 ((gi V 89 18) + (1 : Int32)))) rfl ?_
      rcases ai_if h with ⟨hc, h⟩ | ⟨hc, h⟩
      · refine rg_gfr (z := 0) rfl rfl rfl hc ?_
        refine rn_go 4 (pc' := 53) (l' := [(0, .ref 89)]) (st' := [.int ((gi (si V 89 18 ((gi V 89 18) + (1 : Int32))) 89 18) - (1 : Int32)), .ref 96]) (S1 := (SH ++ X)) (V1 := (si V 89 18 ((gi V 89 18) + (1 : Int32)))) rfl ?_
        obtain ⟨hg, h⟩ := ai_gd h
        refine rg_bald (n := 80) rfl rfl hg ?_
        refine rn_go 2 (pc' := 57) (l' := [(0, .ref 89)]) (st' := [.int ((ga (si V 89 18 ((gi V 89 18) + (1 : Int32))) 96 (((gi (si V 89 18 ((gi V 89 18) + (1 : Int32))) 89 18) - (1 : Int32))).toNatClampNeg) - (97 : Int32))]) (S1 := (SH ++ X)) (V1 := (si V 89 18 ((gi V 89 18) + (1 : Int32)))) rfl ?_
        obtain rfl := Option.some.inj h
        exact rn_ret rfl rfl rfl
      · rcases ai_if h with ⟨hc, h⟩ | ⟨hc, h⟩
        · refine rg_gfr (z := 0) rfl rfl rfl hc ?_
          refine rn_go 4 (pc' := 53) (l' := [(0, .ref 89)]) (st' := [.int ((gi (si V 89 18 ((gi V 89 18) + (1 : Int32))) 89 18) - (1 : Int32)), .ref 99]) (S1 := (SH ++ X)) (V1 := (si V 89 18 ((gi V 89 18) + (1 : Int32)))) rfl ?_
          obtain ⟨hg, h⟩ := ai_gd h
          refine rg_bald (n := 40) rfl rfl hg ?_
          refine rn_go 2 (pc' := 57) (l' := [(0, .ref 89)]) (st' := [.int ((ga (si V 89 18 ((gi V 89 18) + (1 : Int32))) 99 (((gi (si V 89 18 ((gi V 89 18) + (1 : Int32))) 89 18) - (1 : Int32))).toNatClampNeg) - (97 : Int32))]) (S1 := (SH ++ X)) (V1 := (si V 89 18 ((gi V 89 18) + (1 : Int32)))) rfl ?_
          obtain rfl := Option.some.inj h
          exact rn_ret rfl rfl rfl
        · cases h
    · refine rn_brF rfl rfl rfl rfl hc ?_
      refine rn_go 3 (pc' := 28) (l' := [(0, .ref 89)]) (st' := [.int (gi V 89 18), .ref 89]) (S1 := (SH ++ X)) (V1 := V) rfl ?_
      obtain ⟨q4, hq4, h⟩ := ai_bd h
      refine rn_call rfl rfl rfl rfl rfl rfl (by omega) (t_M_fault (by omega) hq4) ?_
      refine rn_go 1 (pc' := 32) (l' := [(0, .ref 89)]) (st' := [.int (0 : Int32)]) (S1 := (SH ++ X)) (V1 := q4) rfl ?_
      obtain rfl := Option.some.inj h
      exact rn_ret rfl rfl rfl
  · refine rn_brF rfl rfl rfl rfl hc ?_
    refine rn_go 1 (pc' := 8) (l' := [(0, .ref 89)]) (st' := [.int (0 : Int32)]) (S1 := (SH ++ X)) (V1 := V) rfl ?_
    obtain rfl := Option.some.inj h
    exact rn_ret rfl rfl rfl
-- RentByTheWheelModel.readTurn()V (89,)
def d_M_readTurn_107   (V : ai_V) : Option ai_V :=
  some (si V 89 38 ((gi V 89 38) + (1 : Int32)))
set_option maxRecDepth 20000 in
theorem t_M_readTurn_107 {X : ai_S} {e : Nat} (hd : 3 ≤ e)   (V : ai_V) (r : ai_V) (h : d_M_readTurn_107   V = some r) : Rn e 198 107 [(0, .ref 89)] [] (SH ++ X) V none (SH ++ X) r := by
  rw [d_M_readTurn_107] at h
  refine rn_go 6 (pc' := 117) (l' := [(0, .ref 89)]) (st' := []) (S1 := (SH ++ X)) (V1 := (si V 89 38 ((gi V 89 38) + (1 : Int32)))) rfl ?_
  obtain rfl := Option.some.inj h
  exact rn_ret rfl rfl rfl
def d_M_readTurn_62  (x1 : Int32) (V : ai_V) : Option ai_V :=
  (d_M_letter  V).bind fun q1 => ((d_M_need (93 : Int32) q1.2).bind fun q2 => (if ai_in (gi q2 89 38) 80 then (d_M_readTurn_107 (sa q2 102 ((gi q2 89 38)).toNatClampNeg (((1 : Int32) <<< (x1 &&& 31)) ||| ((1 : Int32) <<< (q1.1 &&& 31))))) else none))
set_option maxRecDepth 20000 in
theorem t_M_readTurn_62 {X : ai_S} {e : Nat} (hd : 3 ≤ e)  (x1 : Int32) (V : ai_V) (r : ai_V) (h : d_M_readTurn_62  x1 V = some r) : Rn e 198 62 [(0, .ref 89), (1, .int x1)] [] (SH ++ X) V none (SH ++ X) r := by
  rw [d_M_readTurn_62] at h
  refine rn_go 1 (pc' := 63) (l' := [(0, .ref 89), (1, .int x1)]) (st' := [.ref 89]) (S1 := (SH ++ X)) (V1 := V) rfl ?_
  obtain ⟨q1, hq1, h⟩ := ai_bd h
  refine rn_call rfl rfl rfl rfl rfl rfl (by omega) (t_M_letter (by omega) hq1) ?_
  refine rn_go 3 (pc' := 70) (l' := [(2, .int q1.1), (0, .ref 89), (1, .int x1)]) (st' := [.int (93 : Int32), .ref 89]) (S1 := (SH ++ X)) (V1 := q1.2) rfl ?_
  obtain ⟨q2, hq2, h⟩ := ai_bd h
  refine rn_call rfl rfl rfl rfl rfl rfl (by omega) (t_M_need (by omega) hq2) ?_
  refine rn_go 11 (pc' := 88) (l' := [(2, .int q1.1), (0, .ref 89), (1, .int x1)]) (st' := [.int (((1 : Int32) <<< (x1 &&& 31)) ||| ((1 : Int32) <<< (q1.1 &&& 31))), .int (gi q2 89 38), .ref 102]) (S1 := (SH ++ X)) (V1 := q2) rfl ?_
  obtain ⟨hg, h⟩ := ai_gd h
  refine rg_iast (n := 80) rfl rfl hg ?_
  refine rn_go 1 (pc' := 107) (l' := [(2, .int q1.1), (0, .ref 89), (1, .int x1)]) (st' := []) (S1 := (SH ++ X)) (V1 := (sa q2 102 ((gi q2 89 38)).toNatClampNeg (((1 : Int32) <<< (x1 &&& 31)) ||| ((1 : Int32) <<< (q1.1 &&& 31))))) rfl ?_
  exact rn_sub [1] rfl rfl (t_M_readTurn_107 (X := X) hd (sa q2 102 ((gi q2 89 38)).toNatClampNeg (((1 : Int32) <<< (x1 &&& 31)) ||| ((1 : Int32) <<< (q1.1 &&& 31)))) _ h)
def d_M_readTurn  (V : ai_V) : Option ai_V :=
  (d_M_passes (46 : Int32) V).bind fun q3 => (if q3.1 = 0 then ((d_M_passes (91 : Int32) q3.2).bind fun q4 => (if q4.1 = 0 then ((d_M_letter  q4.2).bind fun q5 => (if ai_in (gi q4.2 89 38) 80 then (d_M_readTurn_107 (sa q5.2 102 ((gi q4.2 89 38)).toNatClampNeg ((1 : Int32) <<< (q5.1 &&& 31)))) else none)) else ((d_M_letter  q4.2).bind fun q6 => ((d_M_fine  q6.2).bind fun q7 => (if q7 = 0 then (d_M_readTurn_62 q6.1 q6.2) else ((d_M_here  q6.2).bind fun q8 => (if ¬ q8 = ((97 : Int32) + q6.1) then (d_M_readTurn_62 q6.1 q6.2) else ((d_M_fault (gi q6.2 89 18) q6.2).bind fun q9 => (d_M_readTurn_62 q6.1 q9))))))))) else (if ai_in (gi q3.2 89 38) 80 then (d_M_readTurn_107 (sa q3.2 102 ((gi q3.2 89 38)).toNatClampNeg (0 : Int32))) else none))
set_option maxRecDepth 20000 in
theorem t_M_readTurn {X : ai_S} {e : Nat} (hd : 3 ≤ e)  {V : ai_V} {r : ai_V} (h : d_M_readTurn  V = some r) : Rn e 198 0 (lv_args 0 [.ref 89]) [] (SH ++ X) V none (SH ++ X) r := by
  rw [d_M_readTurn] at h
  refine rn_go 2 (pc' := 3) (l' := [(0, .ref 89)]) (st' := [.int (46 : Int32), .ref 89]) (S1 := (SH ++ X)) (V1 := V) rfl ?_
  obtain ⟨q3, hq3, h⟩ := ai_bd h
  refine rn_call rfl rfl rfl rfl rfl rfl (by omega) (t_M_passes (by omega) hq3) ?_
  rcases ai_if h with ⟨hc, h⟩ | ⟨hc, h⟩
  · refine rn_brT rfl rfl rfl rfl hc ?_
    refine rn_go 2 (pc' := 25) (l' := [(0, .ref 89)]) (st' := [.int (91 : Int32), .ref 89]) (S1 := (SH ++ X)) (V1 := q3.2) rfl ?_
    obtain ⟨q4, hq4, h⟩ := ai_bd h
    refine rn_call rfl rfl rfl rfl rfl rfl (by omega) (t_M_passes (by omega) hq4) ?_
    rcases ai_if h with ⟨hc, h⟩ | ⟨hc, h⟩
    · refine rn_brT rfl rfl rfl rfl hc ?_
      refine rn_go 6 (pc' := 102) (l' := [(0, .ref 89)]) (st' := [.ref 89, .int (1 : Int32), .int (gi q4.2 89 38), .ref 102]) (S1 := (SH ++ X)) (V1 := q4.2) rfl ?_
      obtain ⟨q5, hq5, h⟩ := ai_bd h
      refine rn_call rfl rfl rfl rfl rfl rfl (by omega) (t_M_letter (by omega) hq5) ?_
      refine rn_go 1 (pc' := 106) (l' := [(0, .ref 89)]) (st' := [.int ((1 : Int32) <<< (q5.1 &&& 31)), .int (gi q4.2 89 38), .ref 102]) (S1 := (SH ++ X)) (V1 := q5.2) rfl ?_
      obtain ⟨hg, h⟩ := ai_gd h
      refine rg_iast (n := 80) rfl rfl hg ?_
      exact rn_sub [0] rfl rfl (t_M_readTurn_107 (X := X) hd (sa q5.2 102 ((gi q4.2 89 38)).toNatClampNeg ((1 : Int32) <<< (q5.1 &&& 31))) _ h)
    · refine rn_brF rfl rfl rfl rfl hc ?_
      refine rn_go 1 (pc' := 32) (l' := [(0, .ref 89)]) (st' := [.ref 89]) (S1 := (SH ++ X)) (V1 := q4.2) rfl ?_
      obtain ⟨q6, hq6, h⟩ := ai_bd h
      refine rn_call rfl rfl rfl rfl rfl rfl (by omega) (t_M_letter (by omega) hq6) ?_
      refine rn_go 2 (pc' := 37) (l' := [(1, .int q6.1), (0, .ref 89)]) (st' := [.ref 89]) (S1 := (SH ++ X)) (V1 := q6.2) rfl ?_
      obtain ⟨q7, hq7, h⟩ := ai_bd h
      refine rn_call rfl rfl rfl rfl rfl rfl (by omega) (t_M_fine (by omega) hq7) ?_
      rcases ai_if h with ⟨hc, h⟩ | ⟨hc, h⟩
      · refine rn_brT rfl rfl rfl rfl hc ?_
        exact rn_sub [1, 0] rfl rfl (t_M_readTurn_62 (X := X) hd q6.1 q6.2 _ h)
      · refine rn_brF rfl rfl rfl rfl hc ?_
        refine rn_go 1 (pc' := 44) (l' := [(1, .int q6.1), (0, .ref 89)]) (st' := [.ref 89]) (S1 := (SH ++ X)) (V1 := q6.2) rfl ?_
        obtain ⟨q8, hq8, h⟩ := ai_bd h
        refine rn_call rfl rfl rfl rfl rfl rfl (by omega) (t_M_here (by omega) hq8) ?_
        refine rn_go 3 (pc' := 51) (l' := [(1, .int q6.1), (0, .ref 89)]) (st' := [.int ((97 : Int32) + q6.1), .int q8]) (S1 := (SH ++ X)) (V1 := q6.2) rfl ?_
        rcases ai_if h with ⟨hc, h⟩ | ⟨hc, h⟩
        · refine rn_brT rfl rfl rfl rfl hc ?_
          exact rn_sub [1, 0] rfl rfl (t_M_readTurn_62 (X := X) hd q6.1 q6.2 _ h)
        · refine rn_brF rfl rfl rfl rfl hc ?_
          refine rn_go 3 (pc' := 59) (l' := [(1, .int q6.1), (0, .ref 89)]) (st' := [.int (gi q6.2 89 18), .ref 89]) (S1 := (SH ++ X)) (V1 := q6.2) rfl ?_
          obtain ⟨q9, hq9, h⟩ := ai_bd h
          refine rn_call rfl rfl rfl rfl rfl rfl (by omega) (t_M_fault (by omega) hq9) ?_
          exact rn_sub [1, 0] rfl rfl (t_M_readTurn_62 (X := X) hd q6.1 q9 _ h)
  · refine rn_brF rfl rfl rfl rfl hc ?_
    refine rn_go 5 (pc' := 18) (l' := [(0, .ref 89)]) (st' := [.int (0 : Int32), .int (gi q3.2 89 38), .ref 102]) (S1 := (SH ++ X)) (V1 := q3.2) rfl ?_
    obtain ⟨hg, h⟩ := ai_gd h
    refine rg_iast (n := 80) rfl rfl hg ?_
    refine rn_go 1 (pc' := 107) (l' := [(0, .ref 89)]) (st' := []) (S1 := (SH ++ X)) (V1 := (sa q3.2 102 ((gi q3.2 89 38)).toNatClampNeg (0 : Int32))) rfl ?_
    exact rn_sub [0] rfl rfl (t_M_readTurn_107 (X := X) hd (sa q3.2 102 ((gi q3.2 89 38)).toNatClampNeg (0 : Int32)) _ h)
-- RentByTheWheelModel.readDay()I (89,)
def d_M_readDay_79   (V : ai_V) : Option (Int32 × ai_V) :=
  (d_M_fine  V).bind fun q1 => (if q1 = 0 then (some (((-1 : Int32) - (gi V 89 19)), V)) else (some ((0 : Int32), V)))
set_option maxRecDepth 20000 in
theorem t_M_readDay_79 {X : ai_S} {e : Nat} (hd : 4 ≤ e)   (V : ai_V) (r : (Int32 × ai_V)) (h : d_M_readDay_79   V = some r) : Rn e 199 79 [(0, .ref 89)] [] (SH ++ X) V (some (.int r.1)) (SH ++ X) r.2 := by
  rw [d_M_readDay_79] at h
  refine rn_go 1 (pc' := 80) (l' := [(0, .ref 89)]) (st' := [.ref 89]) (S1 := (SH ++ X)) (V1 := V) rfl ?_
  obtain ⟨q1, hq1, h⟩ := ai_bd h
  refine rn_call rfl rfl rfl rfl rfl rfl (by omega) (t_M_fine (by omega) hq1) ?_
  rcases ai_if h with ⟨hc, h⟩ | ⟨hc, h⟩
  · refine rn_brT rfl rfl rfl rfl hc ?_
    refine rn_go 4 (pc' := 96) (l' := [(0, .ref 89)]) (st' := [.int ((-1 : Int32) - (gi V 89 19))]) (S1 := (SH ++ X)) (V1 := V) rfl ?_
    obtain rfl := Option.some.inj h
    exact rn_ret rfl rfl rfl
  · refine rn_brF rfl rfl rfl rfl hc ?_
    refine rn_go 2 (pc' := 96) (l' := [(0, .ref 89)]) (st' := [.int (0 : Int32)]) (S1 := (SH ++ X)) (V1 := V) rfl ?_
    obtain rfl := Option.some.inj h
    exact rn_ret rfl rfl rfl
def d_M_readDay_60   (V : ai_V) : Option (Int32 × ai_V) :=
  if (gi V 89 16) ≤ (gi V 89 18) then (d_M_readDay_79 V) else ((d_M_fault (gi V 89 18) V).bind fun q2 => (d_M_readDay_79 q2))
set_option maxRecDepth 20000 in
theorem t_M_readDay_60 {X : ai_S} {e : Nat} (hd : 4 ≤ e)   (V : ai_V) (r : (Int32 × ai_V)) (h : d_M_readDay_60   V = some r) : Rn e 199 60 [(0, .ref 89)] [] (SH ++ X) V (some (.int r.1)) (SH ++ X) r.2 := by
  rw [d_M_readDay_60] at h
  refine rn_go 4 (pc' := 68) (l' := [(0, .ref 89)]) (st' := [.int (gi V 89 16), .int (gi V 89 18)]) (S1 := (SH ++ X)) (V1 := V) rfl ?_
  rcases ai_if h with ⟨hc, h⟩ | ⟨hc, h⟩
  · refine rn_brT rfl rfl rfl rfl hc ?_
    exact rn_sub [0] rfl rfl (t_M_readDay_79 (X := X) hd V _ h)
  · refine rn_brF rfl rfl rfl rfl hc ?_
    refine rn_go 3 (pc' := 76) (l' := [(0, .ref 89)]) (st' := [.int (gi V 89 18), .ref 89]) (S1 := (SH ++ X)) (V1 := V) rfl ?_
    obtain ⟨q2, hq2, h⟩ := ai_bd h
    refine rn_call rfl rfl rfl rfl rfl rfl (by omega) (t_M_fault (by omega) hq2) ?_
    exact rn_sub [0] rfl rfl (t_M_readDay_79 (X := X) hd q2 _ h)
def d_M_readDay_24  : Nat → ai_V → Option (Int32 × ai_V)
  | 0, _ => none
  | n + 1, V => (d_M_fine  V).bind fun q3 => (if q3 = 0 then (d_M_readDay_60 V) else (if (gi V 89 16) ≤ (gi V 89 18) then (d_M_readDay_60 V) else (if (gi V 89 17) ≤ (gi V 89 18) then (d_M_readDay_60 V) else ((d_M_readTurn  V).bind fun q4 => (d_M_readDay_24 n q4)))))
set_option maxRecDepth 20000 in
theorem t_M_readDay_24 {X : ai_S} {e : Nat} (hd : 4 ≤ e)  : ∀ (n : Nat)  (V : ai_V) (r : (Int32 × ai_V)), d_M_readDay_24  n  V = some r → Rn e 199 24 [(0, .ref 89)] [] (SH ++ X) V (some (.int r.1)) (SH ++ X) r.2 := by
  intro n
  induction n with
  | zero =>
    intro  V r h
    cases h
  | succ n ih =>
    intro  V r h
    rw [d_M_readDay_24] at h
    refine rn_go 1 (pc' := 25) (l' := [(0, .ref 89)]) (st' := [.ref 89]) (S1 := (SH ++ X)) (V1 := V) rfl ?_
    obtain ⟨q3, hq3, h⟩ := ai_bd h
    refine rn_call rfl rfl rfl rfl rfl rfl (by omega) (t_M_fine (by omega) hq3) ?_
    rcases ai_if h with ⟨hc, h⟩ | ⟨hc, h⟩
    · refine rn_brT rfl rfl rfl rfl hc ?_
      exact rn_sub [0] rfl rfl (t_M_readDay_60 (X := X) hd V _ h)
    · refine rn_brF rfl rfl rfl rfl hc ?_
      refine rn_go 4 (pc' := 39) (l' := [(0, .ref 89)]) (st' := [.int (gi V 89 16), .int (gi V 89 18)]) (S1 := (SH ++ X)) (V1 := V) rfl ?_
      rcases ai_if h with ⟨hc, h⟩ | ⟨hc, h⟩
      · refine rn_brT rfl rfl rfl rfl hc ?_
        exact rn_sub [0] rfl rfl (t_M_readDay_60 (X := X) hd V _ h)
      · refine rn_brF rfl rfl rfl rfl hc ?_
        refine rn_go 4 (pc' := 50) (l' := [(0, .ref 89)]) (st' := [.int (gi V 89 17), .int (gi V 89 18)]) (S1 := (SH ++ X)) (V1 := V) rfl ?_
        rcases ai_if h with ⟨hc, h⟩ | ⟨hc, h⟩
        · refine rn_brT rfl rfl rfl rfl hc ?_
          exact rn_sub [0] rfl rfl (t_M_readDay_60 (X := X) hd V _ h)
        · refine rn_brF rfl rfl rfl rfl hc ?_
          refine rn_go 1 (pc' := 54) (l' := [(0, .ref 89)]) (st' := [.ref 89]) (S1 := (SH ++ X)) (V1 := V) rfl ?_
          obtain ⟨q4, hq4, h⟩ := ai_bd h
          refine rn_call rfl rfl rfl rfl rfl rfl (by omega) (t_M_readTurn (by omega) hq4) ?_
          refine rn_go 1 (pc' := 24) (l' := [(0, .ref 89)]) (st' := []) (S1 := (SH ++ X)) (V1 := q4) rfl ?_
          exact rn_sub [0] rfl rfl (ih q4 _ h)
def d_M_readDay  (V : ai_V) : Option (Int32 × ai_V) :=
  (d_M_begin (gi V 89 11) (48 : Int32) V).bind fun q5 => (d_M_readDay_24 ai_N (si (si q5 89 11 (0 : Int32)) 89 38 (0 : Int32)))
set_option maxRecDepth 20000 in
theorem t_M_readDay {X : ai_S} {e : Nat} (hd : 4 ≤ e)  {V : ai_V} {r : (Int32 × ai_V)} (h : d_M_readDay  V = some r) : Rn e 199 0 (lv_args 0 [.ref 89]) [] (SH ++ X) V (some (.int r.1)) (SH ++ X) r.2 := by
  rw [d_M_readDay] at h
  refine rn_go 6 (pc' := 11) (l' := [(0, .ref 89)]) (st' := [.int (48 : Int32), .int (gi V 89 11), .ref 96, .ref 89]) (S1 := (SH ++ X)) (V1 := V) rfl ?_
  obtain ⟨q5, hq5, h⟩ := ai_bd h
  refine rn_call rfl rfl rfl rfl rfl rfl (by omega) (t_M_begin (by omega) hq5) ?_
  refine rn_go 6 (pc' := 24) (l' := [(0, .ref 89)]) (st' := []) (S1 := (SH ++ X)) (V1 := (si (si q5 89 11 (0 : Int32)) 89 38 (0 : Int32))) rfl ?_
  exact rn_sub [0] rfl rfl (t_M_readDay_24 (X := X) hd ai_N (si (si q5 89 11 (0 : Int32)) 89 38 (0 : Int32)) _ h)
-- RentByTheWheelModel.areThose(I)Z (89, None)
def d_M_areThose (x1 : Int32) (V : ai_V) : Option Int32 :=
  (d_M_in x1 (0 : Int32) (((1 : Int32) <<< ((gi V 89 1) &&& 31)) - (1 : Int32)) V).bind fun q1 => (if q1 = 0 ∨ q1 = 1 then some q1 else none)
set_option maxRecDepth 20000 in
theorem t_M_areThose {X : ai_S} {e : Nat} (hd : 1 ≤ e) {x1 : Int32} {V : ai_V} {r : Int32} (h : d_M_areThose x1 V = some r) : Rn e 200 0 (lv_args 0 [.ref 89, .int x1]) [] (SH ++ X) V (some (.int r)) (SH ++ X) V := by
  rw [d_M_areThose] at h
  refine rn_go 8 (pc' := 10) (l' := [(0, .ref 89), (1, .int x1)]) (st' := [.int (((1 : Int32) <<< ((gi V 89 1) &&& 31)) - (1 : Int32)), .int (0 : Int32), .int x1]) (S1 := (SH ++ X)) (V1 := V) rfl ?_
  obtain ⟨q1, hq1, h⟩ := ai_bd h
  refine rn_call rfl rfl rfl rfl rfl rfl (by omega) (t_M_in (by omega) hq1) ?_
  obtain ⟨hg, h⟩ := ai_gd h
  obtain rfl := Option.some.inj h
  exact rg_zret rfl hg
-- RentByTheWheelModel.lay([I[II)V (90, 101, None)
def d_M_lay_90_101_2  : Nat → Int32 → Int32 → ai_V → Option ai_V
  | 0, _, _, _ => none
  | n + 1, x2, x3, V => if (14 : Int32) ≤ x3 then (some V) else (if ai_in x3 14 then (if ai_in (x2 + x3) 14 then (d_M_lay_90_101_2 n x2 (x3 + (1 : Int32)) (sa V 101 ((x2 + x3)).toNatClampNeg (ga V 90 (x3).toNatClampNeg))) else none) else none)
set_option maxRecDepth 20000 in
theorem t_M_lay_90_101_2 {X : ai_S} {e : Nat} (hd : 0 ≤ e)  : ∀ (n : Nat) (x2 : Int32) (x3 : Int32) (V : ai_V) (r : ai_V), d_M_lay_90_101_2  n x2 x3 V = some r → Rn e 190 2 [(0, .ref 90), (1, .ref 101), (2, .int x2), (3, .int x3)] [] (SH ++ X) V none (SH ++ X) r := by
  intro n
  induction n with
  | zero =>
    intro x2 x3 V r h
    cases h
  | succ n ih =>
    intro x2 x3 V r h
    rw [d_M_lay_90_101_2] at h
    refine rn_go 2 (pc' := 5) (l' := [(0, .ref 90), (1, .ref 101), (2, .int x2), (3, .int x3)]) (st' := [.int (14 : Int32), .int x3]) (S1 := (SH ++ X)) (V1 := V) rfl ?_
    rcases ai_if h with ⟨hc, h⟩ | ⟨hc, h⟩
    · refine rn_brT rfl rfl rfl rfl hc ?_
      obtain rfl := Option.some.inj h
      exact rn_ret rfl rfl rfl
    · refine rn_brF rfl rfl rfl rfl hc ?_
      refine rn_go 6 (pc' := 14) (l' := [(0, .ref 90), (1, .ref 101), (2, .int x2), (3, .int x3)]) (st' := [.int x3, .ref 90, .int (x2 + x3), .ref 101]) (S1 := (SH ++ X)) (V1 := V) rfl ?_
      obtain ⟨hg, h⟩ := ai_gd h
      refine rg_iald (n := 14) rfl rfl hg ?_
      obtain ⟨hg, h⟩ := ai_gd h
      refine rg_iast (n := 14) rfl rfl hg ?_
      refine rn_go 2 (pc' := 2) (l' := [(3, .int (x3 + (1 : Int32))), (0, .ref 90), (1, .ref 101), (2, .int x2)]) (st' := []) (S1 := (SH ++ X)) (V1 := (sa V 101 ((x2 + x3)).toNatClampNeg (ga V 90 (x3).toNatClampNeg))) rfl ?_
      exact rn_sub [1, 2, 3, 0] rfl rfl (ih x2 (x3 + (1 : Int32)) (sa V 101 ((x2 + x3)).toNatClampNeg (ga V 90 (x3).toNatClampNeg)) _ h)
def d_M_lay_90_101 (x2 : Int32) (V : ai_V) : Option ai_V :=
  d_M_lay_90_101_2 ai_N x2 (0 : Int32) V
set_option maxRecDepth 20000 in
theorem t_M_lay_90_101 {X : ai_S} {e : Nat} (hd : 0 ≤ e) {x2 : Int32} {V : ai_V} {r : ai_V} (h : d_M_lay_90_101 x2 V = some r) : Rn e 190 0 (lv_args 0 [.ref 90, .ref 101, .int x2]) [] (SH ++ X) V none (SH ++ X) r := by
  rw [d_M_lay_90_101] at h
  refine rn_go 2 (pc' := 2) (l' := [(3, .int (0 : Int32)), (0, .ref 90), (1, .ref 101), (2, .int x2)]) (st' := []) (S1 := (SH ++ X)) (V1 := V) rfl ?_
  exact rn_sub [1, 2, 3, 0] rfl rfl (t_M_lay_90_101_2 (X := X) hd ai_N x2 (0 : Int32) V _ h)
-- RentByTheWheelModel.goDay([I)I (89, 90)
def d_M_goDay_68  (x2 : Int32) (x3 : Int32) (x4 : Int32) (V : ai_V) : Option (Int32 × ai_V) :=
  (d_M_tell (((ga (si V 89 13 (0 : Int32)) 90 ((12 : Int32)).toNatClampNeg)).toInt64) (si V 89 13 (0 : Int32))).bind fun q1 => ((d_M_tell (x3).toInt64 q1).bind fun q2 => ((d_M_tell (x4).toInt64 q2).bind fun q3 => (some (x2, q3))))
set_option maxRecDepth 20000 in
theorem t_M_goDay_68 {X : ai_S} {e : Nat} (hd : 331 ≤ e)  (x2 : Int32) (x3 : Int32) (x4 : Int32) (V : ai_V) (r : (Int32 × ai_V)) (h : d_M_goDay_68  x2 x3 x4 V = some r) : Rn e 201 68 [(0, .ref 89), (1, .ref 90), (2, .int x2), (3, .int x3), (4, .int x4)] [] (SH ++ X) V (some (.int r.1)) (SH ++ X) r.2 := by
  rw [d_M_goDay_68] at h
  refine rn_go 6 (pc' := 77) (l' := [(0, .ref 89), (1, .ref 90), (2, .int x2), (3, .int x3), (4, .int x4)]) (st' := [.int (12 : Int32), .ref 90, .ref 89]) (S1 := (SH ++ X)) (V1 := (si V 89 13 (0 : Int32))) rfl ?_
  refine rg_iald (n := 14) rfl rfl (by decide) ?_
  refine rn_go 1 (pc' := 79) (l' := [(0, .ref 89), (1, .ref 90), (2, .int x2), (3, .int x3), (4, .int x4)]) (st' := [.long ((ga (si V 89 13 (0 : Int32)) 90 ((12 : Int32)).toNatClampNeg)).toInt64, .ref 89]) (S1 := (SH ++ X)) (V1 := (si V 89 13 (0 : Int32))) rfl ?_
  obtain ⟨q1, hq1, h⟩ := ai_bd h
  refine rn_call rfl rfl rfl rfl rfl rfl (by omega) (t_M_tell (by omega) hq1) ?_
  refine rn_go 3 (pc' := 85) (l' := [(0, .ref 89), (1, .ref 90), (2, .int x2), (3, .int x3), (4, .int x4)]) (st' := [.long (x3).toInt64, .ref 89]) (S1 := (SH ++ X)) (V1 := q1) rfl ?_
  obtain ⟨q2, hq2, h⟩ := ai_bd h
  refine rn_call rfl rfl rfl rfl rfl rfl (by omega) (t_M_tell (by omega) hq2) ?_
  refine rn_go 3 (pc' := 92) (l' := [(0, .ref 89), (1, .ref 90), (2, .int x2), (3, .int x3), (4, .int x4)]) (st' := [.long (x4).toInt64, .ref 89]) (S1 := (SH ++ X)) (V1 := q2) rfl ?_
  obtain ⟨q3, hq3, h⟩ := ai_bd h
  refine rn_call rfl rfl rfl rfl rfl rfl (by omega) (t_M_tell (by omega) hq3) ?_
  refine rn_go 1 (pc' := 96) (l' := [(0, .ref 89), (1, .ref 90), (2, .int x2), (3, .int x3), (4, .int x4)]) (st' := [.int x2]) (S1 := (SH ++ X)) (V1 := q3) rfl ?_
  obtain rfl := Option.some.inj h
  exact rn_ret rfl rfl rfl
def d_M_goDay_7  : Nat → Int32 → Int32 → Int32 → ai_V → Option (Int32 × ai_V)
  | 0, _, _, _, _ => none
  | n + 1, x2, x3, x4, V => if (gi V 89 38) ≤ x2 then (d_M_goDay_68 x2 x3 x4 V) else (if ai_in x2 80 then ((d_M_areThose (ga V 102 (x2).toNatClampNeg) V).bind fun q4 => (if q4 = 0 then (d_M_goDay_68 x2 x3 x4 V) else (if ai_in x2 80 then ((d_M_goQuarter (ga V 102 (x2).toNatClampNeg) (gi V 89 8) V).bind fun q5 => ((d_Int_bitCount (gi q5 89 29) q5).bind fun q6 => (d_M_goDay_7 n (x2 + (1 : Int32)) (x3 + q6) (x4 + (gi q5 89 33)) q5))) else none))) else none)
set_option maxRecDepth 20000 in
theorem t_M_goDay_7 {X : ai_S} {e : Nat} (hd : 331 ≤ e)  : ∀ (n : Nat) (x2 : Int32) (x3 : Int32) (x4 : Int32) (V : ai_V) (r : (Int32 × ai_V)), d_M_goDay_7  n x2 x3 x4 V = some r → Rn e 201 7 [(0, .ref 89), (1, .ref 90), (2, .int x2), (3, .int x3), (4, .int x4)] [] (SH ++ X) V (some (.int r.1)) (SH ++ X) r.2 := by
  intro n
  induction n with
  | zero =>
    intro x2 x3 x4 V r h
    cases h
  | succ n ih =>
    intro x2 x3 x4 V r h
    rw [d_M_goDay_7] at h
    refine rn_go 3 (pc' := 12) (l' := [(0, .ref 89), (1, .ref 90), (2, .int x2), (3, .int x3), (4, .int x4)]) (st' := [.int (gi V 89 38), .int x2]) (S1 := (SH ++ X)) (V1 := V) rfl ?_
    rcases ai_if h with ⟨hc, h⟩ | ⟨hc, h⟩
    · refine rn_brT rfl rfl rfl rfl hc ?_
      exact rn_sub [0, 1, 2, 3, 4] rfl rfl (t_M_goDay_68 (X := X) hd x2 x3 x4 V _ h)
    · refine rn_brF rfl rfl rfl rfl hc ?_
      refine rn_go 4 (pc' := 21) (l' := [(0, .ref 89), (1, .ref 90), (2, .int x2), (3, .int x3), (4, .int x4)]) (st' := [.int x2, .ref 102, .ref 89]) (S1 := (SH ++ X)) (V1 := V) rfl ?_
      obtain ⟨hg, h⟩ := ai_gd h
      refine rg_iald (n := 80) rfl rfl hg ?_
      obtain ⟨q4, hq4, h⟩ := ai_bd h
      refine rn_call rfl rfl rfl rfl rfl rfl (by omega) (t_M_areThose (by omega) hq4) ?_
      rcases ai_if h with ⟨hc, h⟩ | ⟨hc, h⟩
      · refine rn_brT rfl rfl rfl rfl hc ?_
        exact rn_sub [0, 1, 2, 3, 4] rfl rfl (t_M_goDay_68 (X := X) hd x2 x3 x4 V _ h)
      · refine rn_brF rfl rfl rfl rfl hc ?_
        refine rn_go 5 (pc' := 35) (l' := [(0, .ref 89), (1, .ref 90), (2, .int x2), (3, .int x3), (4, .int x4)]) (st' := [.int x2, .ref 102, .ref 90, .ref 89]) (S1 := (SH ++ X)) (V1 := V) rfl ?_
        obtain ⟨hg, h⟩ := ai_gd h
        refine rg_iald (n := 80) rfl rfl hg ?_
        refine rn_go 2 (pc' := 40) (l' := [(0, .ref 89), (1, .ref 90), (2, .int x2), (3, .int x3), (4, .int x4)]) (st' := [.int (gi V 89 8), .int (ga V 102 (x2).toNatClampNeg), .ref 90, .ref 89]) (S1 := (SH ++ X)) (V1 := V) rfl ?_
        obtain ⟨q5, hq5, h⟩ := ai_bd h
        refine rn_call rfl rfl rfl rfl rfl rfl (by omega) (t_M_goQuarter (by omega) hq5) ?_
        refine rn_go 3 (pc' := 48) (l' := [(0, .ref 89), (1, .ref 90), (2, .int x2), (3, .int x3), (4, .int x4)]) (st' := [.int (gi q5 89 29), .int x3]) (S1 := (SH ++ X)) (V1 := q5) rfl ?_
        obtain ⟨q6, hq6, h⟩ := ai_bd h
        refine rn_call rfl rfl rfl rfl rfl rfl (by omega) (t_Int_bitCount (by omega) hq6) ?_
        refine rn_go 9 (pc' := 7) (l' := [(2, .int (x2 + (1 : Int32))), (4, .int (x4 + (gi q5 89 33))), (3, .int (x3 + q6)), (0, .ref 89), (1, .ref 90)]) (st' := []) (S1 := (SH ++ X)) (V1 := q5) rfl ?_
        exact rn_sub [3, 4, 0, 2, 1] rfl rfl (ih (x2 + (1 : Int32)) (x3 + q6) (x4 + (gi q5 89 33)) q5 _ h)
def d_M_goDay  (V : ai_V) : Option (Int32 × ai_V) :=
  d_M_goDay_7 ai_N (0 : Int32) (0 : Int32) (0 : Int32) V
set_option maxRecDepth 20000 in
theorem t_M_goDay {X : ai_S} {e : Nat} (hd : 331 ≤ e)  {V : ai_V} {r : (Int32 × ai_V)} (h : d_M_goDay  V = some r) : Rn e 201 0 (lv_args 0 [.ref 89, .ref 90]) [] (SH ++ X) V (some (.int r.1)) (SH ++ X) r.2 := by
  rw [d_M_goDay] at h
  refine rn_go 6 (pc' := 7) (l' := [(4, .int (0 : Int32)), (3, .int (0 : Int32)), (2, .int (0 : Int32)), (0, .ref 89), (1, .ref 90)]) (st' := []) (S1 := (SH ++ X)) (V1 := V) rfl ?_
  exact rn_sub [3, 4, 2, 1, 0] rfl rfl (t_M_goDay_7 (X := X) hd ai_N (0 : Int32) (0 : Int32) (0 : Int32) V _ h)
-- RentByTheWheelModel.lay([I[II)V (101, 100, None)
def d_M_lay_101_100_2  : Nat → Int32 → Int32 → ai_V → Option ai_V
  | 0, _, _, _ => none
  | n + 1, x2, x3, V => if (14 : Int32) ≤ x3 then (some V) else (if ai_in x3 14 then (if ai_in (x2 + x3) 168 then (d_M_lay_101_100_2 n x2 (x3 + (1 : Int32)) (sa V 100 ((x2 + x3)).toNatClampNeg (ga V 101 (x3).toNatClampNeg))) else none) else none)
set_option maxRecDepth 20000 in
theorem t_M_lay_101_100_2 {X : ai_S} {e : Nat} (hd : 0 ≤ e)  : ∀ (n : Nat) (x2 : Int32) (x3 : Int32) (V : ai_V) (r : ai_V), d_M_lay_101_100_2  n x2 x3 V = some r → Rn e 190 2 [(0, .ref 101), (1, .ref 100), (2, .int x2), (3, .int x3)] [] (SH ++ X) V none (SH ++ X) r := by
  intro n
  induction n with
  | zero =>
    intro x2 x3 V r h
    cases h
  | succ n ih =>
    intro x2 x3 V r h
    rw [d_M_lay_101_100_2] at h
    refine rn_go 2 (pc' := 5) (l' := [(0, .ref 101), (1, .ref 100), (2, .int x2), (3, .int x3)]) (st' := [.int (14 : Int32), .int x3]) (S1 := (SH ++ X)) (V1 := V) rfl ?_
    rcases ai_if h with ⟨hc, h⟩ | ⟨hc, h⟩
    · refine rn_brT rfl rfl rfl rfl hc ?_
      obtain rfl := Option.some.inj h
      exact rn_ret rfl rfl rfl
    · refine rn_brF rfl rfl rfl rfl hc ?_
      refine rn_go 6 (pc' := 14) (l' := [(0, .ref 101), (1, .ref 100), (2, .int x2), (3, .int x3)]) (st' := [.int x3, .ref 101, .int (x2 + x3), .ref 100]) (S1 := (SH ++ X)) (V1 := V) rfl ?_
      obtain ⟨hg, h⟩ := ai_gd h
      refine rg_iald (n := 14) rfl rfl hg ?_
      obtain ⟨hg, h⟩ := ai_gd h
      refine rg_iast (n := 168) rfl rfl hg ?_
      refine rn_go 2 (pc' := 2) (l' := [(3, .int (x3 + (1 : Int32))), (0, .ref 101), (1, .ref 100), (2, .int x2)]) (st' := []) (S1 := (SH ++ X)) (V1 := (sa V 100 ((x2 + x3)).toNatClampNeg (ga V 101 (x3).toNatClampNeg))) rfl ?_
      exact rn_sub [1, 2, 3, 0] rfl rfl (ih x2 (x3 + (1 : Int32)) (sa V 100 ((x2 + x3)).toNatClampNeg (ga V 101 (x3).toNatClampNeg)) _ h)
def d_M_lay_101_100 (x2 : Int32) (V : ai_V) : Option ai_V :=
  d_M_lay_101_100_2 ai_N x2 (0 : Int32) V
set_option maxRecDepth 20000 in
theorem t_M_lay_101_100 {X : ai_S} {e : Nat} (hd : 0 ≤ e) {x2 : Int32} {V : ai_V} {r : ai_V} (h : d_M_lay_101_100 x2 V = some r) : Rn e 190 0 (lv_args 0 [.ref 101, .ref 100, .int x2]) [] (SH ++ X) V none (SH ++ X) r := by
  rw [d_M_lay_101_100] at h
  refine rn_go 2 (pc' := 2) (l' := [(3, .int (0 : Int32)), (0, .ref 101), (1, .ref 100), (2, .int x2)]) (st' := []) (S1 := (SH ++ X)) (V1 := V) rfl ?_
  exact rn_sub [1, 2, 3, 0] rfl rfl (t_M_lay_101_100_2 (X := X) hd ai_N x2 (0 : Int32) V _ h)
-- RentByTheWheelModel.remember([I)V (89, 101)
def d_M_remember_89_101_49   (V : ai_V) : Option ai_V :=
  (d_M_lay_101_100 ((14 : Int32) * (gi V 89 35)) V).bind fun q1 => (some (si q1 89 35 ((gi q1 89 35) + (1 : Int32))))
set_option maxRecDepth 20000 in
theorem t_M_remember_89_101_49 {X : ai_S} {e : Nat} (hd : 1 ≤ e)   (V : ai_V) (r : ai_V) (h : d_M_remember_89_101_49   V = some r) : Rn e 191 49 [(0, .ref 89), (1, .ref 101)] [] (SH ++ X) V none (SH ++ X) r := by
  rw [d_M_remember_89_101_49] at h
  refine rn_go 7 (pc' := 61) (l' := [(0, .ref 89), (1, .ref 101)]) (st' := [.int ((14 : Int32) * (gi V 89 35)), .ref 100, .ref 101]) (S1 := (SH ++ X)) (V1 := V) rfl ?_
  obtain ⟨q1, hq1, h⟩ := ai_bd h
  refine rn_call rfl rfl rfl rfl rfl rfl (by omega) (t_M_lay_101_100 (by omega) hq1) ?_
  refine rn_go 6 (pc' := 74) (l' := [(0, .ref 89), (1, .ref 101)]) (st' := []) (S1 := (SH ++ X)) (V1 := (si q1 89 35 ((gi q1 89 35) + (1 : Int32)))) rfl ?_
  obtain rfl := Option.some.inj h
  exact rn_ret rfl rfl rfl
def d_M_remember_89_101_11  : Nat → Int32 → ai_V → Option ai_V
  | 0, _, _ => none
  | n + 1, x2, V => if (154 : Int32) ≤ x2 then (d_M_remember_89_101_49 (si V 89 35 ((gi V 89 35) - (1 : Int32)))) else (if ai_in (x2 + (14 : Int32)) 168 then (if ai_in x2 168 then (d_M_remember_89_101_11 n (x2 + (1 : Int32)) (sa V 100 (x2).toNatClampNeg (ga V 100 ((x2 + (14 : Int32))).toNatClampNeg))) else none) else none)
set_option maxRecDepth 20000 in
theorem t_M_remember_89_101_11 {X : ai_S} {e : Nat} (hd : 1 ≤ e)  : ∀ (n : Nat) (x2 : Int32) (V : ai_V) (r : ai_V), d_M_remember_89_101_11  n x2 V = some r → Rn e 191 11 [(0, .ref 89), (1, .ref 101), (2, .int x2)] [] (SH ++ X) V none (SH ++ X) r := by
  intro n
  induction n with
  | zero =>
    intro x2 V r h
    cases h
  | succ n ih =>
    intro x2 V r h
    rw [d_M_remember_89_101_11] at h
    refine rn_go 2 (pc' := 15) (l' := [(0, .ref 89), (1, .ref 101), (2, .int x2)]) (st' := [.int (154 : Int32), .int x2]) (S1 := (SH ++ X)) (V1 := V) rfl ?_
    rcases ai_if h with ⟨hc, h⟩ | ⟨hc, h⟩
    · refine rn_brT rfl rfl rfl rfl hc ?_
      refine rn_go 6 (pc' := 49) (l' := [(0, .ref 89), (1, .ref 101), (2, .int x2)]) (st' := []) (S1 := (SH ++ X)) (V1 := (si V 89 35 ((gi V 89 35) - (1 : Int32)))) rfl ?_
      exact rn_sub [0, 1] rfl rfl (t_M_remember_89_101_49 (X := X) hd (si V 89 35 ((gi V 89 35) - (1 : Int32))) _ h)
    · refine rn_brF rfl rfl rfl rfl hc ?_
      refine rn_go 8 (pc' := 31) (l' := [(0, .ref 89), (1, .ref 101), (2, .int x2)]) (st' := [.int (x2 + (14 : Int32)), .ref 100, .int x2, .ref 100]) (S1 := (SH ++ X)) (V1 := V) rfl ?_
      obtain ⟨hg, h⟩ := ai_gd h
      refine rg_iald (n := 168) rfl rfl hg ?_
      obtain ⟨hg, h⟩ := ai_gd h
      refine rg_iast (n := 168) rfl rfl hg ?_
      refine rn_go 2 (pc' := 11) (l' := [(2, .int (x2 + (1 : Int32))), (0, .ref 89), (1, .ref 101)]) (st' := []) (S1 := (SH ++ X)) (V1 := (sa V 100 (x2).toNatClampNeg (ga V 100 ((x2 + (14 : Int32))).toNatClampNeg))) rfl ?_
      exact rn_sub [1, 2, 0] rfl rfl (ih (x2 + (1 : Int32)) (sa V 100 (x2).toNatClampNeg (ga V 100 ((x2 + (14 : Int32))).toNatClampNeg)) _ h)
def d_M_remember_89_101  (V : ai_V) : Option ai_V :=
  if ¬ (gi V 89 35) = (12 : Int32) then (d_M_remember_89_101_49 V) else (d_M_remember_89_101_11 ai_N (0 : Int32) V)
set_option maxRecDepth 20000 in
theorem t_M_remember_89_101 {X : ai_S} {e : Nat} (hd : 1 ≤ e)  {V : ai_V} {r : ai_V} (h : d_M_remember_89_101  V = some r) : Rn e 191 0 (lv_args 0 [.ref 89, .ref 101]) [] (SH ++ X) V none (SH ++ X) r := by
  rw [d_M_remember_89_101] at h
  refine rn_go 3 (pc' := 6) (l' := [(0, .ref 89), (1, .ref 101)]) (st' := [.int (12 : Int32), .int (gi V 89 35)]) (S1 := (SH ++ X)) (V1 := V) rfl ?_
  rcases ai_if h with ⟨hc, h⟩ | ⟨hc, h⟩
  · refine rn_brT rfl rfl rfl rfl hc ?_
    exact rn_sub [0, 1] rfl rfl (t_M_remember_89_101_49 (X := X) hd V _ h)
  · refine rn_brF rfl rfl rfl rfl hc ?_
    refine rn_go 2 (pc' := 11) (l' := [(2, .int (0 : Int32)), (0, .ref 89), (1, .ref 101)]) (st' := []) (S1 := (SH ++ X)) (V1 := V) rfl ?_
    exact rn_sub [1, 2, 0] rfl rfl (t_M_remember_89_101_11 (X := X) hd ai_N (0 : Int32) V _ h)
-- RentByTheWheelModel.day()I (89,)
def d_M_day  (V : ai_V) : Option (Int32 × ai_V) :=
  (d_M_readDay  (si V 89 14 (0 : Int32))).bind fun q1 => (if 0 ≤ q1.1 then ((d_M_lay_90_101 (0 : Int32) q1.2).bind fun q2 => ((d_M_goDay  q2).bind fun q3 => (if q3.1 ≤ 0 then (some (q3.1, q3.2)) else ((d_M_remember_89_101  q3.2).bind fun q4 => (some (q3.1, q4)))))) else (some (q1.1, q1.2)))
set_option maxRecDepth 20000 in
theorem t_M_day {X : ai_S} {e : Nat} (hd : 332 ≤ e)  {V : ai_V} {r : (Int32 × ai_V)} (h : d_M_day  V = some r) : Rn e 202 0 (lv_args 0 [.ref 89]) [] (SH ++ X) V (some (.int r.1)) (SH ++ X) r.2 := by
  rw [d_M_day] at h
  refine rn_go 4 (pc' := 6) (l' := [(0, .ref 89)]) (st' := [.ref 89]) (S1 := (SH ++ X)) (V1 := (si V 89 14 (0 : Int32))) rfl ?_
  obtain ⟨q1, hq1, h⟩ := ai_bd h
  refine rn_call rfl rfl rfl rfl rfl rfl (by omega) (t_M_readDay (by omega) hq1) ?_
  refine rn_go 2 (pc' := 11) (l' := [(1, .int q1.1), (0, .ref 89)]) (st' := [.int q1.1]) (S1 := (SH ++ X)) (V1 := q1.2) rfl ?_
  rcases ai_if h with ⟨hc, h⟩ | ⟨hc, h⟩
  · refine rn_brT rfl rfl rfl rfl hc ?_
    refine rn_go 5 (pc' := 25) (l' := [(1, .int q1.1), (0, .ref 89)]) (st' := [.int (0 : Int32), .ref 101, .ref 90]) (S1 := (SH ++ X)) (V1 := q1.2) rfl ?_
    obtain ⟨q2, hq2, h⟩ := ai_bd h
    refine rn_call rfl rfl rfl rfl rfl rfl (by omega) (t_M_lay_90_101 (by omega) hq2) ?_
    refine rn_go 3 (pc' := 33) (l' := [(1, .int q1.1), (0, .ref 89)]) (st' := [.ref 90, .ref 89]) (S1 := (SH ++ X)) (V1 := q2) rfl ?_
    obtain ⟨q3, hq3, h⟩ := ai_bd h
    refine rn_call rfl rfl rfl rfl rfl rfl (by omega) (t_M_goDay (by omega) hq3) ?_
    refine rn_go 2 (pc' := 38) (l' := [(2, .int q3.1), (1, .int q1.1), (0, .ref 89)]) (st' := [.int q3.1]) (S1 := (SH ++ X)) (V1 := q3.2) rfl ?_
    rcases ai_if h with ⟨hc, h⟩ | ⟨hc, h⟩
    · refine rn_brT rfl rfl rfl rfl hc ?_
      refine rn_go 1 (pc' := 50) (l' := [(2, .int q3.1), (1, .int q1.1), (0, .ref 89)]) (st' := [.int q3.1]) (S1 := (SH ++ X)) (V1 := q3.2) rfl ?_
      obtain rfl := Option.some.inj h
      exact rn_ret rfl rfl rfl
    · refine rn_brF rfl rfl rfl rfl hc ?_
      refine rn_go 3 (pc' := 46) (l' := [(2, .int q3.1), (1, .int q1.1), (0, .ref 89)]) (st' := [.ref 101, .ref 89]) (S1 := (SH ++ X)) (V1 := q3.2) rfl ?_
      obtain ⟨q4, hq4, h⟩ := ai_bd h
      refine rn_call rfl rfl rfl rfl rfl rfl (by omega) (t_M_remember_89_101 (by omega) hq4) ?_
      refine rn_go 1 (pc' := 50) (l' := [(2, .int q3.1), (1, .int q1.1), (0, .ref 89)]) (st' := [.int q3.1]) (S1 := (SH ++ X)) (V1 := q4) rfl ?_
      obtain rfl := Option.some.inj h
      exact rn_ret rfl rfl rfl
  · refine rn_brF rfl rfl rfl rfl hc ?_
    refine rn_go 1 (pc' := 15) (l' := [(1, .int q1.1), (0, .ref 89)]) (st' := [.int q1.1]) (S1 := (SH ++ X)) (V1 := q1.2) rfl ?_
    obtain rfl := Option.some.inj h
    exact rn_ret rfl rfl rfl
-- RentByTheWheelModel.lay([I[II)V (90, 103, None)
def d_M_lay_90_103_2  : Nat → Int32 → Int32 → ai_V → Option ai_V
  | 0, _, _, _ => none
  | n + 1, x2, x3, V => if (14 : Int32) ≤ x3 then (some V) else (if ai_in x3 14 then (if ai_in (x2 + x3) 14 then (d_M_lay_90_103_2 n x2 (x3 + (1 : Int32)) (sa V 103 ((x2 + x3)).toNatClampNeg (ga V 90 (x3).toNatClampNeg))) else none) else none)
set_option maxRecDepth 20000 in
theorem t_M_lay_90_103_2 {X : ai_S} {e : Nat} (hd : 0 ≤ e)  : ∀ (n : Nat) (x2 : Int32) (x3 : Int32) (V : ai_V) (r : ai_V), d_M_lay_90_103_2  n x2 x3 V = some r → Rn e 190 2 [(0, .ref 90), (1, .ref 103), (2, .int x2), (3, .int x3)] [] (SH ++ X) V none (SH ++ X) r := by
  intro n
  induction n with
  | zero =>
    intro x2 x3 V r h
    cases h
  | succ n ih =>
    intro x2 x3 V r h
    rw [d_M_lay_90_103_2] at h
    refine rn_go 2 (pc' := 5) (l' := [(0, .ref 90), (1, .ref 103), (2, .int x2), (3, .int x3)]) (st' := [.int (14 : Int32), .int x3]) (S1 := (SH ++ X)) (V1 := V) rfl ?_
    rcases ai_if h with ⟨hc, h⟩ | ⟨hc, h⟩
    · refine rn_brT rfl rfl rfl rfl hc ?_
      obtain rfl := Option.some.inj h
      exact rn_ret rfl rfl rfl
    · refine rn_brF rfl rfl rfl rfl hc ?_
      refine rn_go 6 (pc' := 14) (l' := [(0, .ref 90), (1, .ref 103), (2, .int x2), (3, .int x3)]) (st' := [.int x3, .ref 90, .int (x2 + x3), .ref 103]) (S1 := (SH ++ X)) (V1 := V) rfl ?_
      obtain ⟨hg, h⟩ := ai_gd h
      refine rg_iald (n := 14) rfl rfl hg ?_
      obtain ⟨hg, h⟩ := ai_gd h
      refine rg_iast (n := 14) rfl rfl hg ?_
      refine rn_go 2 (pc' := 2) (l' := [(3, .int (x3 + (1 : Int32))), (0, .ref 90), (1, .ref 103), (2, .int x2)]) (st' := []) (S1 := (SH ++ X)) (V1 := (sa V 103 ((x2 + x3)).toNatClampNeg (ga V 90 (x3).toNatClampNeg))) rfl ?_
      exact rn_sub [1, 2, 3, 0] rfl rfl (ih x2 (x3 + (1 : Int32)) (sa V 103 ((x2 + x3)).toNatClampNeg (ga V 90 (x3).toNatClampNeg)) _ h)
def d_M_lay_90_103 (x2 : Int32) (V : ai_V) : Option ai_V :=
  d_M_lay_90_103_2 ai_N x2 (0 : Int32) V
set_option maxRecDepth 20000 in
theorem t_M_lay_90_103 {X : ai_S} {e : Nat} (hd : 0 ≤ e) {x2 : Int32} {V : ai_V} {r : ai_V} (h : d_M_lay_90_103 x2 V = some r) : Rn e 190 0 (lv_args 0 [.ref 90, .ref 103, .int x2]) [] (SH ++ X) V none (SH ++ X) r := by
  rw [d_M_lay_90_103] at h
  refine rn_go 2 (pc' := 2) (l' := [(3, .int (0 : Int32)), (0, .ref 90), (1, .ref 103), (2, .int x2)]) (st' := []) (S1 := (SH ++ X)) (V1 := V) rfl ?_
  exact rn_sub [1, 2, 3, 0] rfl rfl (t_M_lay_90_103_2 (X := X) hd ai_N x2 (0 : Int32) V _ h)
-- RentByTheWheelModel.goQuarter([III)V (89, 103, None, None)
def d_M_goQuarter_89_103_163  : Nat → Int32 → ai_V → Option ai_V
  | 0, _, _ => none
  | n + 1, x4, V => if (gi V 89 1) ≤ x4 then (some V) else (if ai_in x4 14 then (if ai_in x4 6 then (if ai_in x4 14 then (d_M_goQuarter_89_103_163 n (x4 + (1 : Int32)) (sa V 103 (x4).toNatClampNeg ((ga V 103 (x4).toNatClampNeg) + ((gi V 89 9) * ((ga V 91 (x4).toNatClampNeg) + (1 : Int32)))))) else none) else none) else none)
set_option maxRecDepth 20000 in
theorem t_M_goQuarter_89_103_163 {X : ai_S} {e : Nat} (hd : 330 ≤ e)  : ∀ (n : Nat) (x4 : Int32) (V : ai_V) (r : ai_V), d_M_goQuarter_89_103_163  n x4 V = some r → Rn e 195 163 [(0, .ref 89), (1, .ref 103), (4, .int x4)] [] (SH ++ X) V none (SH ++ X) r := by
  intro n
  induction n with
  | zero =>
    intro x4 V r h
    cases h
  | succ n ih =>
    intro x4 V r h
    rw [d_M_goQuarter_89_103_163] at h
    refine rn_go 3 (pc' := 169) (l' := [(0, .ref 89), (1, .ref 103), (4, .int x4)]) (st' := [.int (gi V 89 1), .int x4]) (S1 := (SH ++ X)) (V1 := V) rfl ?_
    rcases ai_if h with ⟨hc, h⟩ | ⟨hc, h⟩
    · refine rn_brT rfl rfl rfl rfl hc ?_
      obtain rfl := Option.some.inj h
      exact rn_ret rfl rfl rfl
    · refine rn_brF rfl rfl rfl rfl hc ?_
      refine rn_go 3 (pc' := 176) (l' := [(0, .ref 89), (1, .ref 103), (4, .int x4)]) (st' := [.int x4, .ref 103, .int x4, .ref 103]) (S1 := (SH ++ X)) (V1 := V) rfl ?_
      obtain ⟨hg, h⟩ := ai_gd h
      refine rg_iald (n := 14) rfl rfl hg ?_
      refine rn_go 5 (pc' := 187) (l' := [(0, .ref 89), (1, .ref 103), (4, .int x4)]) (st' := [.int x4, .ref 91, .int (gi V 89 9), .int (ga V 103 (x4).toNatClampNeg), .int x4, .ref 103]) (S1 := (SH ++ X)) (V1 := V) rfl ?_
      obtain ⟨hg, h⟩ := ai_gd h
      refine rg_iald (n := 6) rfl rfl hg ?_
      refine rn_go 4 (pc' := 192) (l' := [(0, .ref 89), (1, .ref 103), (4, .int x4)]) (st' := [.int ((ga V 103 (x4).toNatClampNeg) + ((gi V 89 9) * ((ga V 91 (x4).toNatClampNeg) + (1 : Int32)))), .int x4, .ref 103]) (S1 := (SH ++ X)) (V1 := V) rfl ?_
      obtain ⟨hg, h⟩ := ai_gd h
      refine rg_iast (n := 14) rfl rfl hg ?_
      refine rn_go 2 (pc' := 163) (l' := [(4, .int (x4 + (1 : Int32))), (0, .ref 89), (1, .ref 103)]) (st' := []) (S1 := (SH ++ X)) (V1 := (sa V 103 (x4).toNatClampNeg ((ga V 103 (x4).toNatClampNeg) + ((gi V 89 9) * ((ga V 91 (x4).toNatClampNeg) + (1 : Int32)))))) rfl ?_
      exact rn_sub [1, 2, 0] rfl rfl (ih (x4 + (1 : Int32)) (sa V 103 (x4).toNatClampNeg ((ga V 103 (x4).toNatClampNeg) + ((gi V 89 9) * ((ga V 91 (x4).toNatClampNeg) + (1 : Int32))))) _ h)
def d_M_goQuarter_89_103_136 (F104 : Int32 → ai_V → Option ai_V) (x4 : Int32) (V : ai_V) : Option ai_V :=
  F104 (x4 + (1 : Int32)) V
set_option maxRecDepth 20000 in
theorem t_M_goQuarter_89_103_136 {X : ai_S} {e : Nat} (hd : 330 ≤ e) (F104 : Int32 → ai_V → Option ai_V) (hF104 : ∀ (x4 : Int32) (V : ai_V) (r : ai_V), F104 x4 V = some r → Rn e 195 104 [(0, .ref 89), (1, .ref 103), (4, .int x4)] [] (SH ++ X) V none (SH ++ X) r) (x4 : Int32) (V : ai_V) (r : ai_V) (h : d_M_goQuarter_89_103_136 F104 x4 V = some r) : Rn e 195 136 [(0, .ref 89), (1, .ref 103), (4, .int x4)] [] (SH ++ X) V none (SH ++ X) r := by
  rw [d_M_goQuarter_89_103_136] at h
  refine rn_go 2 (pc' := 104) (l' := [(4, .int (x4 + (1 : Int32))), (0, .ref 89), (1, .ref 103)]) (st' := []) (S1 := (SH ++ X)) (V1 := V) rfl ?_
  exact rn_sub [1, 2, 0] rfl rfl (hF104 (x4 + (1 : Int32)) V _ h)
def d_M_goQuarter_89_103_104  : Nat → Int32 → ai_V → Option ai_V
  | 0, _, _ => none
  | n + 1, x4, V => if (gi V 89 1) ≤ x4 then (if ¬ ((ga (sa V 103 ((13 : Int32)).toNatClampNeg ((ga V 103 ((13 : Int32)).toNatClampNeg) + (1 : Int32))) 103 ((13 : Int32)).toNatClampNeg) - (ga (sa V 103 ((13 : Int32)).toNatClampNeg ((ga V 103 ((13 : Int32)).toNatClampNeg) + (1 : Int32))) 103 ((13 : Int32)).toNatClampNeg) / (12 : Int32) * (12 : Int32)) = 0 then (some (sa V 103 ((13 : Int32)).toNatClampNeg ((ga V 103 ((13 : Int32)).toNatClampNeg) + (1 : Int32)))) else (d_M_goQuarter_89_103_163 ai_N (0 : Int32) (sa V 103 ((13 : Int32)).toNatClampNeg ((ga V 103 ((13 : Int32)).toNatClampNeg) + (1 : Int32))))) else ((d_M_has (gi V 89 29) x4 V).bind fun q1 => (if q1 = 0 then (d_M_goQuarter_89_103_136 (d_M_goQuarter_89_103_104 n) x4 V) else (if ai_in ((6 : Int32) + x4) 14 then (if ai_in ((6 : Int32) + x4) 14 then (d_M_goQuarter_89_103_136 (d_M_goQuarter_89_103_104 n) x4 (sa V 103 (((6 : Int32) + x4)).toNatClampNeg ((ga V 103 (((6 : Int32) + x4)).toNatClampNeg) + (1 : Int32)))) else none) else none)))
set_option maxRecDepth 20000 in
theorem t_M_goQuarter_89_103_104 {X : ai_S} {e : Nat} (hd : 330 ≤ e)  : ∀ (n : Nat) (x4 : Int32) (V : ai_V) (r : ai_V), d_M_goQuarter_89_103_104  n x4 V = some r → Rn e 195 104 [(0, .ref 89), (1, .ref 103), (4, .int x4)] [] (SH ++ X) V none (SH ++ X) r := by
  intro n
  induction n with
  | zero =>
    intro x4 V r h
    cases h
  | succ n ih =>
    intro x4 V r h
    rw [d_M_goQuarter_89_103_104] at h
    refine rn_go 3 (pc' := 110) (l' := [(0, .ref 89), (1, .ref 103), (4, .int x4)]) (st' := [.int (gi V 89 1), .int x4]) (S1 := (SH ++ X)) (V1 := V) rfl ?_
    rcases ai_if h with ⟨hc, h⟩ | ⟨hc, h⟩
    · refine rn_brT rfl rfl rfl rfl hc ?_
      refine rn_go 3 (pc' := 146) (l' := [(0, .ref 89), (1, .ref 103), (4, .int x4)]) (st' := [.int (13 : Int32), .ref 103, .int (13 : Int32), .ref 103]) (S1 := (SH ++ X)) (V1 := V) rfl ?_
      refine rg_iald (n := 14) rfl rfl (by decide) ?_
      refine rn_go 2 (pc' := 149) (l' := [(0, .ref 89), (1, .ref 103), (4, .int x4)]) (st' := [.int ((ga V 103 ((13 : Int32)).toNatClampNeg) + (1 : Int32)), .int (13 : Int32), .ref 103]) (S1 := (SH ++ X)) (V1 := V) rfl ?_
      refine rg_iast (n := 14) rfl rfl (by decide) ?_
      refine rn_go 2 (pc' := 153) (l' := [(0, .ref 89), (1, .ref 103), (4, .int x4)]) (st' := [.int (13 : Int32), .ref 103]) (S1 := (SH ++ X)) (V1 := (sa V 103 ((13 : Int32)).toNatClampNeg ((ga V 103 ((13 : Int32)).toNatClampNeg) + (1 : Int32)))) rfl ?_
      refine rg_iald (n := 14) rfl rfl (by decide) ?_
      refine rn_go 1 (pc' := 156) (l' := [(0, .ref 89), (1, .ref 103), (4, .int x4)]) (st' := [.int (12 : Int32), .int (ga (sa V 103 ((13 : Int32)).toNatClampNeg ((ga V 103 ((13 : Int32)).toNatClampNeg) + (1 : Int32))) 103 ((13 : Int32)).toNatClampNeg)]) (S1 := (SH ++ X)) (V1 := (sa V 103 ((13 : Int32)).toNatClampNeg ((ga V 103 ((13 : Int32)).toNatClampNeg) + (1 : Int32)))) rfl ?_
      refine rg_irem rfl (by decide) ?_
      rcases ai_if h with ⟨hc, h⟩ | ⟨hc, h⟩
      · refine rn_brT rfl rfl rfl rfl hc ?_
        obtain rfl := Option.some.inj h
        exact rn_ret rfl rfl rfl
      · refine rn_brF rfl rfl rfl rfl hc ?_
        refine rn_go 2 (pc' := 163) (l' := [(4, .int (0 : Int32)), (0, .ref 89), (1, .ref 103)]) (st' := []) (S1 := (SH ++ X)) (V1 := (sa V 103 ((13 : Int32)).toNatClampNeg ((ga V 103 ((13 : Int32)).toNatClampNeg) + (1 : Int32)))) rfl ?_
        exact rn_sub [1, 2, 0] rfl rfl (t_M_goQuarter_89_103_163 (X := X) hd ai_N (0 : Int32) (sa V 103 ((13 : Int32)).toNatClampNeg ((ga V 103 ((13 : Int32)).toNatClampNeg) + (1 : Int32))) _ h)
    · refine rn_brF rfl rfl rfl rfl hc ?_
      refine rn_go 3 (pc' := 119) (l' := [(0, .ref 89), (1, .ref 103), (4, .int x4)]) (st' := [.int x4, .int (gi V 89 29)]) (S1 := (SH ++ X)) (V1 := V) rfl ?_
      obtain ⟨q1, hq1, h⟩ := ai_bd h
      refine rn_call rfl rfl rfl rfl rfl rfl (by omega) (t_M_has (by omega) hq1) ?_
      rcases ai_if h with ⟨hc, h⟩ | ⟨hc, h⟩
      · refine rn_brT rfl rfl rfl rfl hc ?_
        exact rn_sub [0, 1, 2] rfl rfl (t_M_goQuarter_89_103_136 (X := X) hd (d_M_goQuarter_89_103_104 n) (ih) x4 V _ h)
      · refine rn_brF rfl rfl rfl rfl hc ?_
        refine rn_go 5 (pc' := 132) (l' := [(0, .ref 89), (1, .ref 103), (4, .int x4)]) (st' := [.int ((6 : Int32) + x4), .ref 103, .int ((6 : Int32) + x4), .ref 103]) (S1 := (SH ++ X)) (V1 := V) rfl ?_
        obtain ⟨hg, h⟩ := ai_gd h
        refine rg_iald (n := 14) rfl rfl hg ?_
        refine rn_go 2 (pc' := 135) (l' := [(0, .ref 89), (1, .ref 103), (4, .int x4)]) (st' := [.int ((ga V 103 (((6 : Int32) + x4)).toNatClampNeg) + (1 : Int32)), .int ((6 : Int32) + x4), .ref 103]) (S1 := (SH ++ X)) (V1 := V) rfl ?_
        obtain ⟨hg, h⟩ := ai_gd h
        refine rg_iast (n := 14) rfl rfl hg ?_
        exact rn_sub [0, 1, 2] rfl rfl (t_M_goQuarter_89_103_136 (X := X) hd (d_M_goQuarter_89_103_104 n) (ih) x4 (sa V 103 (((6 : Int32) + x4)).toNatClampNeg ((ga V 103 (((6 : Int32) + x4)).toNatClampNeg) + (1 : Int32))) _ h)
def d_M_goQuarter_89_103_69 (F39 : Int32 → Int32 → ai_V → Option ai_V) (x2 : Int32) (x4 : Int32) (V : ai_V) : Option ai_V :=
  F39 x2 (x4 + (1 : Int32)) V
set_option maxRecDepth 20000 in
theorem t_M_goQuarter_89_103_69 {X : ai_S} {e : Nat} (hd : 330 ≤ e) (F39 : Int32 → Int32 → ai_V → Option ai_V) (hF39 : ∀ (x2 : Int32) (x4 : Int32) (V : ai_V) (r : ai_V), F39 x2 x4 V = some r → Rn e 195 39 [(0, .ref 89), (1, .ref 103), (2, .int x2), (4, .int x4)] [] (SH ++ X) V none (SH ++ X) r) (x2 : Int32) (x4 : Int32) (V : ai_V) (r : ai_V) (h : d_M_goQuarter_89_103_69 F39 x2 x4 V = some r) : Rn e 195 69 [(0, .ref 89), (1, .ref 103), (2, .int x2), (4, .int x4)] [] (SH ++ X) V none (SH ++ X) r := by
  rw [d_M_goQuarter_89_103_69] at h
  refine rn_go 2 (pc' := 39) (l' := [(4, .int (x4 + (1 : Int32))), (0, .ref 89), (1, .ref 103), (2, .int x2)]) (st' := []) (S1 := (SH ++ X)) (V1 := V) rfl ?_
  exact rn_sub [1, 2, 3, 0] rfl rfl (hF39 x2 (x4 + (1 : Int32)) V _ h)
def d_M_goQuarter_89_103_39  : Nat → Int32 → Int32 → ai_V → Option ai_V
  | 0, _, _, _ => none
  | n + 1, x2, x4, V => if (gi V 89 1) ≤ x4 then ((d_M_takes (((ga V 103 ((12 : Int32)).toNatClampNeg) + (gi V 89 32)) - (gi V 89 33)) (ga V 103 ((13 : Int32)).toNatClampNeg) V).bind fun q2 => (d_M_goQuarter_89_103_104 ai_N (0 : Int32) (sa q2.2 103 ((12 : Int32)).toNatClampNeg q2.1))) else ((d_M_has x2 x4 V).bind fun q3 => (if q3 = 0 then (d_M_goQuarter_89_103_69 (d_M_goQuarter_89_103_39 n) x2 x4 V) else (if ai_in x4 14 then ((d_M_turnsOf x2 V).bind fun q4 => (if ai_in x4 14 then (d_M_goQuarter_89_103_69 (d_M_goQuarter_89_103_39 n) x2 x4 (sa V 103 (x4).toNatClampNeg ((ga V 103 (x4).toNatClampNeg) - q4))) else none)) else none)))
set_option maxRecDepth 20000 in
theorem t_M_goQuarter_89_103_39 {X : ai_S} {e : Nat} (hd : 330 ≤ e)  : ∀ (n : Nat) (x2 : Int32) (x4 : Int32) (V : ai_V) (r : ai_V), d_M_goQuarter_89_103_39  n x2 x4 V = some r → Rn e 195 39 [(0, .ref 89), (1, .ref 103), (2, .int x2), (4, .int x4)] [] (SH ++ X) V none (SH ++ X) r := by
  intro n
  induction n with
  | zero =>
    intro x2 x4 V r h
    cases h
  | succ n ih =>
    intro x2 x4 V r h
    rw [d_M_goQuarter_89_103_39] at h
    refine rn_go 3 (pc' := 45) (l' := [(0, .ref 89), (1, .ref 103), (2, .int x2), (4, .int x4)]) (st' := [.int (gi V 89 1), .int x4]) (S1 := (SH ++ X)) (V1 := V) rfl ?_
    rcases ai_if h with ⟨hc, h⟩ | ⟨hc, h⟩
    · refine rn_brT rfl rfl rfl rfl hc ?_
      refine rn_go 5 (pc' := 82) (l' := [(0, .ref 89), (1, .ref 103), (2, .int x2), (4, .int x4)]) (st' := [.int (12 : Int32), .ref 103, .ref 89, .int (12 : Int32), .ref 103]) (S1 := (SH ++ X)) (V1 := V) rfl ?_
      refine rg_iald (n := 14) rfl rfl (by decide) ?_
      refine rn_go 8 (pc' := 96) (l' := [(0, .ref 89), (1, .ref 103), (2, .int x2), (4, .int x4)]) (st' := [.int (13 : Int32), .ref 103, .int (((ga V 103 ((12 : Int32)).toNatClampNeg) + (gi V 89 32)) - (gi V 89 33)), .ref 89, .int (12 : Int32), .ref 103]) (S1 := (SH ++ X)) (V1 := V) rfl ?_
      refine rg_iald (n := 14) rfl rfl (by decide) ?_
      obtain ⟨q2, hq2, h⟩ := ai_bd h
      refine rn_call rfl rfl rfl rfl rfl rfl (by omega) (t_M_takes (by omega) hq2) ?_
      refine rg_iast (n := 14) rfl rfl (by decide) ?_
      refine rn_go 2 (pc' := 104) (l' := [(4, .int (0 : Int32)), (0, .ref 89), (1, .ref 103), (2, .int x2)]) (st' := []) (S1 := (SH ++ X)) (V1 := (sa q2.2 103 ((12 : Int32)).toNatClampNeg q2.1)) rfl ?_
      exact rn_sub [1, 2, 0] rfl rfl (t_M_goQuarter_89_103_104 (X := X) hd ai_N (0 : Int32) (sa q2.2 103 ((12 : Int32)).toNatClampNeg q2.1) _ h)
    · refine rn_brF rfl rfl rfl rfl hc ?_
      refine rn_go 2 (pc' := 51) (l' := [(0, .ref 89), (1, .ref 103), (2, .int x2), (4, .int x4)]) (st' := [.int x4, .int x2]) (S1 := (SH ++ X)) (V1 := V) rfl ?_
      obtain ⟨q3, hq3, h⟩ := ai_bd h
      refine rn_call rfl rfl rfl rfl rfl rfl (by omega) (t_M_has (by omega) hq3) ?_
      rcases ai_if h with ⟨hc, h⟩ | ⟨hc, h⟩
      · refine rn_brT rfl rfl rfl rfl hc ?_
        exact rn_sub [0, 1, 2, 3] rfl rfl (t_M_goQuarter_89_103_69 (X := X) hd (d_M_goQuarter_89_103_39 n) (ih) x2 x4 V _ h)
      · refine rn_brF rfl rfl rfl rfl hc ?_
        refine rn_go 3 (pc' := 61) (l' := [(0, .ref 89), (1, .ref 103), (2, .int x2), (4, .int x4)]) (st' := [.int x4, .ref 103, .int x4, .ref 103]) (S1 := (SH ++ X)) (V1 := V) rfl ?_
        obtain ⟨hg, h⟩ := ai_gd h
        refine rg_iald (n := 14) rfl rfl hg ?_
        refine rn_go 2 (pc' := 64) (l' := [(0, .ref 89), (1, .ref 103), (2, .int x2), (4, .int x4)]) (st' := [.int x2, .ref 89, .int (ga V 103 (x4).toNatClampNeg), .int x4, .ref 103]) (S1 := (SH ++ X)) (V1 := V) rfl ?_
        obtain ⟨q4, hq4, h⟩ := ai_bd h
        refine rn_call rfl rfl rfl rfl rfl rfl (by omega) (t_M_turnsOf (by omega) hq4) ?_
        refine rn_go 1 (pc' := 68) (l' := [(0, .ref 89), (1, .ref 103), (2, .int x2), (4, .int x4)]) (st' := [.int ((ga V 103 (x4).toNatClampNeg) - q4), .int x4, .ref 103]) (S1 := (SH ++ X)) (V1 := V) rfl ?_
        obtain ⟨hg, h⟩ := ai_gd h
        refine rg_iast (n := 14) rfl rfl hg ?_
        exact rn_sub [0, 1, 2, 3] rfl rfl (t_M_goQuarter_89_103_69 (X := X) hd (d_M_goQuarter_89_103_39 n) (ih) x2 x4 (sa V 103 (x4).toNatClampNeg ((ga V 103 (x4).toNatClampNeg) - q4)) _ h)
def d_M_goQuarter_89_103 (x2 : Int32) (x3 : Int32) (V : ai_V) : Option ai_V :=
  (d_M_liftOfAll x2 (ga V 103 ((12 : Int32)).toNatClampNeg) (ga V 103 ((13 : Int32)).toNatClampNeg) V).bind fun q5 => (d_M_goQuarter_89_103_39 ai_N x2 (0 : Int32) (si (si q5.2 89 32 q5.1) 89 33 (ai_max (0 : Int32) (((ga (si q5.2 89 32 q5.1) 103 ((12 : Int32)).toNatClampNeg) + (gi (si q5.2 89 32 q5.1) 89 32)) - x3))))
set_option maxRecDepth 20000 in
theorem t_M_goQuarter_89_103 {X : ai_S} {e : Nat} (hd : 330 ≤ e) {x2 : Int32} {x3 : Int32} {V : ai_V} {r : ai_V} (h : d_M_goQuarter_89_103 x2 x3 V = some r) : Rn e 195 0 (lv_args 0 [.ref 89, .ref 103, .int x2, .int x3]) [] (SH ++ X) V none (SH ++ X) r := by
  rw [d_M_goQuarter_89_103] at h
  refine rn_go 5 (pc' := 6) (l' := [(0, .ref 89), (1, .ref 103), (2, .int x2), (3, .int x3)]) (st' := [.int (12 : Int32), .ref 103, .int x2, .ref 89, .ref 89]) (S1 := (SH ++ X)) (V1 := V) rfl ?_
  refine rg_iald (n := 14) rfl rfl (by decide) ?_
  refine rn_go 2 (pc' := 10) (l' := [(0, .ref 89), (1, .ref 103), (2, .int x2), (3, .int x3)]) (st' := [.int (13 : Int32), .ref 103, .int (ga V 103 ((12 : Int32)).toNatClampNeg), .int x2, .ref 89, .ref 89]) (S1 := (SH ++ X)) (V1 := V) rfl ?_
  refine rg_iald (n := 14) rfl rfl (by decide) ?_
  obtain ⟨q5, hq5, h⟩ := ai_bd h
  refine rn_call rfl rfl rfl rfl rfl rfl (by omega) (t_M_liftOfAll (by omega) hq5) ?_
  refine rn_go 5 (pc' := 22) (l' := [(0, .ref 89), (1, .ref 103), (2, .int x2), (3, .int x3)]) (st' := [.int (12 : Int32), .ref 103, .int (0 : Int32), .ref 89]) (S1 := (SH ++ X)) (V1 := (si q5.2 89 32 q5.1)) rfl ?_
  refine rg_iald (n := 14) rfl rfl (by decide) ?_
  refine rn_go 9 (pc' := 39) (l' := [(4, .int (0 : Int32)), (0, .ref 89), (1, .ref 103), (2, .int x2), (3, .int x3)]) (st' := []) (S1 := (SH ++ X)) (V1 := (si (si q5.2 89 32 q5.1) 89 33 (ai_max (0 : Int32) (((ga (si q5.2 89 32 q5.1) 103 ((12 : Int32)).toNatClampNeg) + (gi (si q5.2 89 32 q5.1) 89 32)) - x3)))) rfl ?_
  exact rn_sub [1, 2, 3, 0] rfl rfl (t_M_goQuarter_89_103_39 (X := X) hd ai_N x2 (0 : Int32) (si (si q5.2 89 32 q5.1) 89 33 (ai_max (0 : Int32) (((ga (si q5.2 89 32 q5.1) 103 ((12 : Int32)).toNatClampNeg) + (gi (si q5.2 89 32 q5.1) 89 32)) - x3))) _ h)
-- RentByTheWheelModel.goDay([I)I (89, 103)
def d_M_goDay_89_103_68  (x2 : Int32) (x3 : Int32) (x4 : Int32) (V : ai_V) : Option (Int32 × ai_V) :=
  (d_M_tell (((ga (si V 89 13 (0 : Int32)) 103 ((12 : Int32)).toNatClampNeg)).toInt64) (si V 89 13 (0 : Int32))).bind fun q1 => ((d_M_tell (x3).toInt64 q1).bind fun q2 => ((d_M_tell (x4).toInt64 q2).bind fun q3 => (some (x2, q3))))
set_option maxRecDepth 20000 in
theorem t_M_goDay_89_103_68 {X : ai_S} {e : Nat} (hd : 331 ≤ e)  (x2 : Int32) (x3 : Int32) (x4 : Int32) (V : ai_V) (r : (Int32 × ai_V)) (h : d_M_goDay_89_103_68  x2 x3 x4 V = some r) : Rn e 201 68 [(0, .ref 89), (1, .ref 103), (2, .int x2), (3, .int x3), (4, .int x4)] [] (SH ++ X) V (some (.int r.1)) (SH ++ X) r.2 := by
  rw [d_M_goDay_89_103_68] at h
  refine rn_go 6 (pc' := 77) (l' := [(0, .ref 89), (1, .ref 103), (2, .int x2), (3, .int x3), (4, .int x4)]) (st' := [.int (12 : Int32), .ref 103, .ref 89]) (S1 := (SH ++ X)) (V1 := (si V 89 13 (0 : Int32))) rfl ?_
  refine rg_iald (n := 14) rfl rfl (by decide) ?_
  refine rn_go 1 (pc' := 79) (l' := [(0, .ref 89), (1, .ref 103), (2, .int x2), (3, .int x3), (4, .int x4)]) (st' := [.long ((ga (si V 89 13 (0 : Int32)) 103 ((12 : Int32)).toNatClampNeg)).toInt64, .ref 89]) (S1 := (SH ++ X)) (V1 := (si V 89 13 (0 : Int32))) rfl ?_
  obtain ⟨q1, hq1, h⟩ := ai_bd h
  refine rn_call rfl rfl rfl rfl rfl rfl (by omega) (t_M_tell (by omega) hq1) ?_
  refine rn_go 3 (pc' := 85) (l' := [(0, .ref 89), (1, .ref 103), (2, .int x2), (3, .int x3), (4, .int x4)]) (st' := [.long (x3).toInt64, .ref 89]) (S1 := (SH ++ X)) (V1 := q1) rfl ?_
  obtain ⟨q2, hq2, h⟩ := ai_bd h
  refine rn_call rfl rfl rfl rfl rfl rfl (by omega) (t_M_tell (by omega) hq2) ?_
  refine rn_go 3 (pc' := 92) (l' := [(0, .ref 89), (1, .ref 103), (2, .int x2), (3, .int x3), (4, .int x4)]) (st' := [.long (x4).toInt64, .ref 89]) (S1 := (SH ++ X)) (V1 := q2) rfl ?_
  obtain ⟨q3, hq3, h⟩ := ai_bd h
  refine rn_call rfl rfl rfl rfl rfl rfl (by omega) (t_M_tell (by omega) hq3) ?_
  refine rn_go 1 (pc' := 96) (l' := [(0, .ref 89), (1, .ref 103), (2, .int x2), (3, .int x3), (4, .int x4)]) (st' := [.int x2]) (S1 := (SH ++ X)) (V1 := q3) rfl ?_
  obtain rfl := Option.some.inj h
  exact rn_ret rfl rfl rfl
def d_M_goDay_89_103_7  : Nat → Int32 → Int32 → Int32 → ai_V → Option (Int32 × ai_V)
  | 0, _, _, _, _ => none
  | n + 1, x2, x3, x4, V => if (gi V 89 38) ≤ x2 then (d_M_goDay_89_103_68 x2 x3 x4 V) else (if ai_in x2 80 then ((d_M_areThose (ga V 102 (x2).toNatClampNeg) V).bind fun q4 => (if q4 = 0 then (d_M_goDay_89_103_68 x2 x3 x4 V) else (if ai_in x2 80 then ((d_M_goQuarter_89_103 (ga V 102 (x2).toNatClampNeg) (gi V 89 8) V).bind fun q5 => ((d_Int_bitCount (gi q5 89 29) q5).bind fun q6 => (d_M_goDay_89_103_7 n (x2 + (1 : Int32)) (x3 + q6) (x4 + (gi q5 89 33)) q5))) else none))) else none)
set_option maxRecDepth 20000 in
theorem t_M_goDay_89_103_7 {X : ai_S} {e : Nat} (hd : 331 ≤ e)  : ∀ (n : Nat) (x2 : Int32) (x3 : Int32) (x4 : Int32) (V : ai_V) (r : (Int32 × ai_V)), d_M_goDay_89_103_7  n x2 x3 x4 V = some r → Rn e 201 7 [(0, .ref 89), (1, .ref 103), (2, .int x2), (3, .int x3), (4, .int x4)] [] (SH ++ X) V (some (.int r.1)) (SH ++ X) r.2 := by
  intro n
  induction n with
  | zero =>
    intro x2 x3 x4 V r h
    cases h
  | succ n ih =>
    intro x2 x3 x4 V r h
    rw [d_M_goDay_89_103_7] at h
    refine rn_go 3 (pc' := 12) (l' := [(0, .ref 89), (1, .ref 103), (2, .int x2), (3, .int x3), (4, .int x4)]) (st' := [.int (gi V 89 38), .int x2]) (S1 := (SH ++ X)) (V1 := V) rfl ?_
    rcases ai_if h with ⟨hc, h⟩ | ⟨hc, h⟩
    · refine rn_brT rfl rfl rfl rfl hc ?_
      exact rn_sub [0, 1, 2, 3, 4] rfl rfl (t_M_goDay_89_103_68 (X := X) hd x2 x3 x4 V _ h)
    · refine rn_brF rfl rfl rfl rfl hc ?_
      refine rn_go 4 (pc' := 21) (l' := [(0, .ref 89), (1, .ref 103), (2, .int x2), (3, .int x3), (4, .int x4)]) (st' := [.int x2, .ref 102, .ref 89]) (S1 := (SH ++ X)) (V1 := V) rfl ?_
      obtain ⟨hg, h⟩ := ai_gd h
      refine rg_iald (n := 80) rfl rfl hg ?_
      obtain ⟨q4, hq4, h⟩ := ai_bd h
      refine rn_call rfl rfl rfl rfl rfl rfl (by omega) (t_M_areThose (by omega) hq4) ?_
      rcases ai_if h with ⟨hc, h⟩ | ⟨hc, h⟩
      · refine rn_brT rfl rfl rfl rfl hc ?_
        exact rn_sub [0, 1, 2, 3, 4] rfl rfl (t_M_goDay_89_103_68 (X := X) hd x2 x3 x4 V _ h)
      · refine rn_brF rfl rfl rfl rfl hc ?_
        refine rn_go 5 (pc' := 35) (l' := [(0, .ref 89), (1, .ref 103), (2, .int x2), (3, .int x3), (4, .int x4)]) (st' := [.int x2, .ref 102, .ref 103, .ref 89]) (S1 := (SH ++ X)) (V1 := V) rfl ?_
        obtain ⟨hg, h⟩ := ai_gd h
        refine rg_iald (n := 80) rfl rfl hg ?_
        refine rn_go 2 (pc' := 40) (l' := [(0, .ref 89), (1, .ref 103), (2, .int x2), (3, .int x3), (4, .int x4)]) (st' := [.int (gi V 89 8), .int (ga V 102 (x2).toNatClampNeg), .ref 103, .ref 89]) (S1 := (SH ++ X)) (V1 := V) rfl ?_
        obtain ⟨q5, hq5, h⟩ := ai_bd h
        refine rn_call rfl rfl rfl rfl rfl rfl (by omega) (t_M_goQuarter_89_103 (by omega) hq5) ?_
        refine rn_go 3 (pc' := 48) (l' := [(0, .ref 89), (1, .ref 103), (2, .int x2), (3, .int x3), (4, .int x4)]) (st' := [.int (gi q5 89 29), .int x3]) (S1 := (SH ++ X)) (V1 := q5) rfl ?_
        obtain ⟨q6, hq6, h⟩ := ai_bd h
        refine rn_call rfl rfl rfl rfl rfl rfl (by omega) (t_Int_bitCount (by omega) hq6) ?_
        refine rn_go 9 (pc' := 7) (l' := [(2, .int (x2 + (1 : Int32))), (4, .int (x4 + (gi q5 89 33))), (3, .int (x3 + q6)), (0, .ref 89), (1, .ref 103)]) (st' := []) (S1 := (SH ++ X)) (V1 := q5) rfl ?_
        exact rn_sub [3, 4, 0, 2, 1] rfl rfl (ih (x2 + (1 : Int32)) (x3 + q6) (x4 + (gi q5 89 33)) q5 _ h)
def d_M_goDay_89_103  (V : ai_V) : Option (Int32 × ai_V) :=
  d_M_goDay_89_103_7 ai_N (0 : Int32) (0 : Int32) (0 : Int32) V
set_option maxRecDepth 20000 in
theorem t_M_goDay_89_103 {X : ai_S} {e : Nat} (hd : 331 ≤ e)  {V : ai_V} {r : (Int32 × ai_V)} (h : d_M_goDay_89_103  V = some r) : Rn e 201 0 (lv_args 0 [.ref 89, .ref 103]) [] (SH ++ X) V (some (.int r.1)) (SH ++ X) r.2 := by
  rw [d_M_goDay_89_103] at h
  refine rn_go 6 (pc' := 7) (l' := [(4, .int (0 : Int32)), (3, .int (0 : Int32)), (2, .int (0 : Int32)), (0, .ref 89), (1, .ref 103)]) (st' := []) (S1 := (SH ++ X)) (V1 := V) rfl ?_
  exact rn_sub [3, 4, 2, 1, 0] rfl rfl (t_M_goDay_89_103_7 (X := X) hd ai_N (0 : Int32) (0 : Int32) (0 : Int32) V _ h)
-- RentByTheWheelModel.look()I (89,)
def d_M_look  (V : ai_V) : Option (Int32 × ai_V) :=
  (d_M_readDay  (si V 89 14 (0 : Int32))).bind fun q1 => (if 0 ≤ q1.1 then ((d_M_lay_90_103 (0 : Int32) q1.2).bind fun q2 => ((d_M_goDay_89_103  q2).bind fun q3 => (some (q3.1, q3.2)))) else (some (q1.1, q1.2)))
set_option maxRecDepth 20000 in
theorem t_M_look {X : ai_S} {e : Nat} (hd : 332 ≤ e)  {V : ai_V} {r : (Int32 × ai_V)} (h : d_M_look  V = some r) : Rn e 203 0 (lv_args 0 [.ref 89]) [] (SH ++ X) V (some (.int r.1)) (SH ++ X) r.2 := by
  rw [d_M_look] at h
  refine rn_go 4 (pc' := 6) (l' := [(0, .ref 89)]) (st' := [.ref 89]) (S1 := (SH ++ X)) (V1 := (si V 89 14 (0 : Int32))) rfl ?_
  obtain ⟨q1, hq1, h⟩ := ai_bd h
  refine rn_call rfl rfl rfl rfl rfl rfl (by omega) (t_M_readDay (by omega) hq1) ?_
  refine rn_go 2 (pc' := 11) (l' := [(1, .int q1.1), (0, .ref 89)]) (st' := [.int q1.1]) (S1 := (SH ++ X)) (V1 := q1.2) rfl ?_
  rcases ai_if h with ⟨hc, h⟩ | ⟨hc, h⟩
  · refine rn_brT rfl rfl rfl rfl hc ?_
    refine rn_go 5 (pc' := 25) (l' := [(1, .int q1.1), (0, .ref 89)]) (st' := [.int (0 : Int32), .ref 103, .ref 90]) (S1 := (SH ++ X)) (V1 := q1.2) rfl ?_
    obtain ⟨q2, hq2, h⟩ := ai_bd h
    refine rn_call rfl rfl rfl rfl rfl rfl (by omega) (t_M_lay_90_103 (by omega) hq2) ?_
    refine rn_go 3 (pc' := 33) (l' := [(1, .int q1.1), (0, .ref 89)]) (st' := [.ref 103, .ref 89]) (S1 := (SH ++ X)) (V1 := q2) rfl ?_
    obtain ⟨q3, hq3, h⟩ := ai_bd h
    refine rn_call rfl rfl rfl rfl rfl rfl (by omega) (t_M_goDay_89_103 (by omega) hq3) ?_
    obtain rfl := Option.some.inj h
    exact rn_ret rfl rfl rfl
  · refine rn_brF rfl rfl rfl rfl hc ?_
    refine rn_go 1 (pc' := 15) (l' := [(1, .int q1.1), (0, .ref 89)]) (st' := [.int q1.1]) (S1 := (SH ++ X)) (V1 := q1.2) rfl ?_
    obtain rfl := Option.some.inj h
    exact rn_ret rfl rfl rfl
-- RentByTheWheelModel.undo()I (89,)
def d_M_undo_26  : Nat → Int32 → ai_V → Option (Int32 × ai_V)
  | 0, _, _ => none
  | n + 1, x1, V => if (14 : Int32) ≤ x1 then (some ((gi (sa V 90 ((12 : Int32)).toNatClampNeg (ai_min (ga V 90 ((12 : Int32)).toNatClampNeg) (gi V 89 8))) 89 35), (sa V 90 ((12 : Int32)).toNatClampNeg (ai_min (ga V 90 ((12 : Int32)).toNatClampNeg) (gi V 89 8))))) else (if ai_in (((14 : Int32) * (gi V 89 35)) + x1) 168 then (if ai_in x1 14 then (d_M_undo_26 n (x1 + (1 : Int32)) (sa V 90 (x1).toNatClampNeg (ga V 100 ((((14 : Int32) * (gi V 89 35)) + x1)).toNatClampNeg))) else none) else none)
set_option maxRecDepth 20000 in
theorem t_M_undo_26 {X : ai_S} {e : Nat} (hd : 0 ≤ e)  : ∀ (n : Nat) (x1 : Int32) (V : ai_V) (r : (Int32 × ai_V)), d_M_undo_26  n x1 V = some r → Rn e 204 26 [(0, .ref 89), (1, .int x1)] [] (SH ++ X) V (some (.int r.1)) (SH ++ X) r.2 := by
  intro n
  induction n with
  | zero =>
    intro x1 V r h
    cases h
  | succ n ih =>
    intro x1 V r h
    rw [d_M_undo_26] at h
    refine rn_go 2 (pc' := 29) (l' := [(0, .ref 89), (1, .int x1)]) (st' := [.int (14 : Int32), .int x1]) (S1 := (SH ++ X)) (V1 := V) rfl ?_
    rcases ai_if h with ⟨hc, h⟩ | ⟨hc, h⟩
    · refine rn_brT rfl rfl rfl rfl hc ?_
      refine rn_go 6 (pc' := 70) (l' := [(0, .ref 89), (1, .int x1)]) (st' := [.int (12 : Int32), .ref 90, .int (12 : Int32), .ref 90]) (S1 := (SH ++ X)) (V1 := V) rfl ?_
      refine rg_iald (n := 14) rfl rfl (by decide) ?_
      refine rn_go 3 (pc' := 78) (l' := [(0, .ref 89), (1, .int x1)]) (st' := [.int (ai_min (ga V 90 ((12 : Int32)).toNatClampNeg) (gi V 89 8)), .int (12 : Int32), .ref 90]) (S1 := (SH ++ X)) (V1 := V) rfl ?_
      refine rg_iast (n := 14) rfl rfl (by decide) ?_
      refine rn_go 2 (pc' := 83) (l' := [(0, .ref 89), (1, .int x1)]) (st' := [.int (gi (sa V 90 ((12 : Int32)).toNatClampNeg (ai_min (ga V 90 ((12 : Int32)).toNatClampNeg) (gi V 89 8))) 89 35)]) (S1 := (SH ++ X)) (V1 := (sa V 90 ((12 : Int32)).toNatClampNeg (ai_min (ga V 90 ((12 : Int32)).toNatClampNeg) (gi V 89 8)))) rfl ?_
      obtain rfl := Option.some.inj h
      exact rn_ret rfl rfl rfl
    · refine rn_brF rfl rfl rfl rfl hc ?_
      refine rn_go 11 (pc' := 50) (l' := [(0, .ref 89), (1, .int x1)]) (st' := [.int (((14 : Int32) * (gi V 89 35)) + x1), .ref 100, .int x1, .ref 90]) (S1 := (SH ++ X)) (V1 := V) rfl ?_
      obtain ⟨hg, h⟩ := ai_gd h
      refine rg_iald (n := 168) rfl rfl hg ?_
      obtain ⟨hg, h⟩ := ai_gd h
      refine rg_iast (n := 14) rfl rfl hg ?_
      refine rn_go 2 (pc' := 26) (l' := [(1, .int (x1 + (1 : Int32))), (0, .ref 89)]) (st' := []) (S1 := (SH ++ X)) (V1 := (sa V 90 (x1).toNatClampNeg (ga V 100 ((((14 : Int32) * (gi V 89 35)) + x1)).toNatClampNeg))) rfl ?_
      exact rn_sub [1, 0] rfl rfl (ih (x1 + (1 : Int32)) (sa V 90 (x1).toNatClampNeg (ga V 100 ((((14 : Int32) * (gi V 89 35)) + x1)).toNatClampNeg)) _ h)
def d_M_undo  (V : ai_V) : Option (Int32 × ai_V) :=
  if ¬ (gi (si V 89 14 (0 : Int32)) 89 35) = 0 then (d_M_undo_26 ai_N (0 : Int32) (si (si V 89 14 (0 : Int32)) 89 35 ((gi (si V 89 14 (0 : Int32)) 89 35) - (1 : Int32)))) else (some ((-1 : Int32), (si V 89 14 (0 : Int32))))
set_option maxRecDepth 20000 in
theorem t_M_undo {X : ai_S} {e : Nat} (hd : 0 ≤ e)  {V : ai_V} {r : (Int32 × ai_V)} (h : d_M_undo  V = some r) : Rn e 204 0 (lv_args 0 [.ref 89]) [] (SH ++ X) V (some (.int r.1)) (SH ++ X) r.2 := by
  rw [d_M_undo] at h
  refine rn_go 5 (pc' := 9) (l' := [(0, .ref 89)]) (st' := [.int (gi (si V 89 14 (0 : Int32)) 89 35)]) (S1 := (SH ++ X)) (V1 := (si V 89 14 (0 : Int32))) rfl ?_
  rcases ai_if h with ⟨hc, h⟩ | ⟨hc, h⟩
  · refine rn_brT rfl rfl rfl rfl hc ?_
    refine rn_go 8 (pc' := 26) (l' := [(1, .int (0 : Int32)), (0, .ref 89)]) (st' := []) (S1 := (SH ++ X)) (V1 := (si (si V 89 14 (0 : Int32)) 89 35 ((gi (si V 89 14 (0 : Int32)) 89 35) - (1 : Int32)))) rfl ?_
    exact rn_sub [1, 0] rfl rfl (t_M_undo_26 (X := X) hd ai_N (0 : Int32) (si (si V 89 14 (0 : Int32)) 89 35 ((gi (si V 89 14 (0 : Int32)) 89 35) - (1 : Int32))) _ h)
  · refine rn_brF rfl rfl rfl rfl hc ?_
    refine rn_go 1 (pc' := 13) (l' := [(0, .ref 89)]) (st' := [.int (-1 : Int32)]) (S1 := (SH ++ X)) (V1 := (si V 89 14 (0 : Int32))) rfl ?_
    obtain rfl := Option.some.inj h
    exact rn_ret rfl rfl rfl
-- RentByTheWheelModel.leftBy(IIIZ)I (89, None, None, None, None)
def d_M_leftBy_144  (s0 : Int32) (s1 : Int32) (V : ai_V) : Option (Int32 × ai_V) :=
  some ((s1 + s0), V)
set_option maxRecDepth 20000 in
theorem t_M_leftBy_144 {X : ai_S} {e : Nat} (hd : 330 ≤ e)  (s0 : Int32) (s1 : Int32) (V : ai_V) (r : (Int32 × ai_V)) (h : d_M_leftBy_144  s0 s1 V = some r) : Rn e 205 144 [] [.int s0, .int s1] (SH ++ X) V (some (.int r.1)) (SH ++ X) r.2 := by
  rw [d_M_leftBy_144] at h
  refine rn_go 1 (pc' := 145) (l' := []) (st' := [.int (s1 + s0)]) (S1 := (SH ++ X)) (V1 := V) rfl ?_
  obtain rfl := Option.some.inj h
  exact rn_ret rfl rfl rfl
def d_M_leftBy_113  (x4 : Int32) (x8 : Int32) (s0 : Int32) (V : ai_V) : Option (Int32 × ai_V) :=
  if x4 = 0 then (d_M_leftBy_144 ((10000 : Int32) * s0) x8 V) else ((d_Int_bitCount (gi V 89 29) V).bind fun q1 => (d_M_leftBy_144 (((100 : Int32) * q1) + s0) x8 V))
set_option maxRecDepth 20000 in
theorem t_M_leftBy_113 {X : ai_S} {e : Nat} (hd : 330 ≤ e)  (x4 : Int32) (x8 : Int32) (s0 : Int32) (V : ai_V) (r : (Int32 × ai_V)) (h : d_M_leftBy_113  x4 x8 s0 V = some r) : Rn e 205 113 [(0, .ref 89), (4, .int x4), (8, .int x8)] [.int s0] (SH ++ X) V (some (.int r.1)) (SH ++ X) r.2 := by
  rw [d_M_leftBy_113] at h
  refine rn_go 3 (pc' := 119) (l' := [(9, .int s0), (0, .ref 89), (4, .int x4), (8, .int x8)]) (st' := [.int x4, .int x8]) (S1 := (SH ++ X)) (V1 := V) rfl ?_
  rcases ai_if h with ⟨hc, h⟩ | ⟨hc, h⟩
  · refine rn_brT rfl rfl rfl rfl hc ?_
    refine rn_go 3 (pc' := 144) (l' := [(9, .int s0), (0, .ref 89), (4, .int x4), (8, .int x8)]) (st' := [.int ((10000 : Int32) * s0), .int x8]) (S1 := (SH ++ X)) (V1 := V) rfl ?_
    exact rn_sub [] rfl rfl (t_M_leftBy_144 (X := X) hd ((10000 : Int32) * s0) x8 V _ h)
  · refine rn_brF rfl rfl rfl rfl hc ?_
    refine rn_go 3 (pc' := 128) (l' := [(9, .int s0), (0, .ref 89), (4, .int x4), (8, .int x8)]) (st' := [.int (gi V 89 29), .int (100 : Int32), .int x8]) (S1 := (SH ++ X)) (V1 := V) rfl ?_
    obtain ⟨q1, hq1, h⟩ := ai_bd h
    refine rn_call rfl rfl rfl rfl rfl rfl (by omega) (t_Int_bitCount (by omega) hq1) ?_
    refine rn_go 4 (pc' := 144) (l' := [(9, .int s0), (0, .ref 89), (4, .int x4), (8, .int x8)]) (st' := [.int (((100 : Int32) * q1) + s0), .int x8]) (S1 := (SH ++ X)) (V1 := V) rfl ?_
    exact rn_sub [] rfl rfl (t_M_leftBy_144 (X := X) hd (((100 : Int32) * q1) + s0) x8 V _ h)
def d_M_leftBy_74  (x1 : Int32) (x3 : Int32) (x4 : Int32) (x7 : Int32) (V : ai_V) : Option (Int32 × ai_V) :=
  if ai_in (((1000 : Int32) * (x1 + (1 : Int32))) + x7) 13000 then (if ¬ (ga V 104 ((((1000 : Int32) * (x1 + (1 : Int32))) + x7)).toNatClampNeg) = (1000000000 : Int32) then (if ¬ x3 = (-1 : Int32) then (d_M_leftBy_113 x4 (ga V 104 ((((1000 : Int32) * (x1 + (1 : Int32))) + x7)).toNatClampNeg) (1 : Int32) V) else (d_M_leftBy_113 x4 (ga V 104 ((((1000 : Int32) * (x1 + (1 : Int32))) + x7)).toNatClampNeg) (0 : Int32) V)) else (some ((1000000000 : Int32), V))) else none
set_option maxRecDepth 20000 in
theorem t_M_leftBy_74 {X : ai_S} {e : Nat} (hd : 330 ≤ e)  (x1 : Int32) (x3 : Int32) (x4 : Int32) (x7 : Int32) (V : ai_V) (r : (Int32 × ai_V)) (h : d_M_leftBy_74  x1 x3 x4 x7 V = some r) : Rn e 205 74 [(0, .ref 89), (1, .int x1), (3, .int x3), (4, .int x4), (7, .int x7)] [] (SH ++ X) V (some (.int r.1)) (SH ++ X) r.2 := by
  rw [d_M_leftBy_74] at h
  refine rn_go 9 (pc' := 88) (l' := [(0, .ref 89), (1, .int x1), (3, .int x3), (4, .int x4), (7, .int x7)]) (st' := [.int (((1000 : Int32) * (x1 + (1 : Int32))) + x7), .ref 104]) (S1 := (SH ++ X)) (V1 := V) rfl ?_
  obtain ⟨hg, h⟩ := ai_gd h
  refine rg_iald (n := 13000) rfl rfl hg ?_
  refine rn_go 3 (pc' := 96) (l' := [(8, .int (ga V 104 ((((1000 : Int32) * (x1 + (1 : Int32))) + x7)).toNatClampNeg)), (0, .ref 89), (1, .int x1), (3, .int x3), (4, .int x4), (7, .int x7)]) (st' := [.int (1000000000 : Int32), .int (ga V 104 ((((1000 : Int32) * (x1 + (1 : Int32))) + x7)).toNatClampNeg)]) (S1 := (SH ++ X)) (V1 := V) rfl ?_
  rcases ai_if h with ⟨hc, h⟩ | ⟨hc, h⟩
  · refine rn_brT rfl rfl rfl rfl hc ?_
    refine rn_go 2 (pc' := 105) (l' := [(8, .int (ga V 104 ((((1000 : Int32) * (x1 + (1 : Int32))) + x7)).toNatClampNeg)), (0, .ref 89), (1, .int x1), (3, .int x3), (4, .int x4), (7, .int x7)]) (st' := [.int (-1 : Int32), .int x3]) (S1 := (SH ++ X)) (V1 := V) rfl ?_
    rcases ai_if h with ⟨hc, h⟩ | ⟨hc, h⟩
    · refine rn_brT rfl rfl rfl rfl hc ?_
      refine rn_go 1 (pc' := 113) (l' := [(8, .int (ga V 104 ((((1000 : Int32) * (x1 + (1 : Int32))) + x7)).toNatClampNeg)), (0, .ref 89), (1, .int x1), (3, .int x3), (4, .int x4), (7, .int x7)]) (st' := [.int (1 : Int32)]) (S1 := (SH ++ X)) (V1 := V) rfl ?_
      exact rn_sub [1, 4, 0] rfl rfl (t_M_leftBy_113 (X := X) hd x4 (ga V 104 ((((1000 : Int32) * (x1 + (1 : Int32))) + x7)).toNatClampNeg) (1 : Int32) V _ h)
    · refine rn_brF rfl rfl rfl rfl hc ?_
      refine rn_go 2 (pc' := 113) (l' := [(8, .int (ga V 104 ((((1000 : Int32) * (x1 + (1 : Int32))) + x7)).toNatClampNeg)), (0, .ref 89), (1, .int x1), (3, .int x3), (4, .int x4), (7, .int x7)]) (st' := [.int (0 : Int32)]) (S1 := (SH ++ X)) (V1 := V) rfl ?_
      exact rn_sub [1, 4, 0] rfl rfl (t_M_leftBy_113 (X := X) hd x4 (ga V 104 ((((1000 : Int32) * (x1 + (1 : Int32))) + x7)).toNatClampNeg) (0 : Int32) V _ h)
  · refine rn_brF rfl rfl rfl rfl hc ?_
    refine rn_go 1 (pc' := 102) (l' := [(8, .int (ga V 104 ((((1000 : Int32) * (x1 + (1 : Int32))) + x7)).toNatClampNeg)), (0, .ref 89), (1, .int x1), (3, .int x3), (4, .int x4), (7, .int x7)]) (st' := [.int (1000000000 : Int32)]) (S1 := (SH ++ X)) (V1 := V) rfl ?_
    obtain rfl := Option.some.inj h
    exact rn_ret rfl rfl rfl
def d_M_leftBy_12  (x1 : Int32) (x2 : Int32) (x3 : Int32) (x4 : Int32) (s0 : Int32) (V : ai_V) : Option (Int32 × ai_V) :=
  (d_M_liftOfAll s0 x2 ((ga V 90 ((13 : Int32)).toNatClampNeg) + x1) V).bind fun q2 => ((d_M_takes (ai_min (gi V 89 8) (x2 + q2.1)) ((ga q2.2 90 ((13 : Int32)).toNatClampNeg) + x1) q2.2).bind fun q3 => (if (gi q3.2 89 29) = 0 then (d_M_leftBy_74 x1 x3 x4 q3.1 q3.2) else (if ¬ x4 = 0 then (d_M_leftBy_74 x1 x3 x4 q3.1 q3.2) else (some ((1000000000 : Int32), q3.2)))))
set_option maxRecDepth 20000 in
theorem t_M_leftBy_12 {X : ai_S} {e : Nat} (hd : 330 ≤ e)  (x1 : Int32) (x2 : Int32) (x3 : Int32) (x4 : Int32) (s0 : Int32) (V : ai_V) (r : (Int32 × ai_V)) (h : d_M_leftBy_12  x1 x2 x3 x4 s0 V = some r) : Rn e 205 12 [(0, .ref 89), (1, .int x1), (2, .int x2), (3, .int x3), (4, .int x4)] [.int s0] (SH ++ X) V (some (.int r.1)) (SH ++ X) r.2 := by
  rw [d_M_leftBy_12] at h
  refine rn_go 10 (pc' := 29) (l' := [(5, .int s0), (0, .ref 89), (1, .int x1), (2, .int x2), (3, .int x3), (4, .int x4)]) (st' := [.int (13 : Int32), .ref 90, .int x2, .int s0, .ref 89, .int x2, .int (gi V 89 8)]) (S1 := (SH ++ X)) (V1 := V) rfl ?_
  refine rg_iald (n := 14) rfl rfl (by decide) ?_
  refine rn_go 2 (pc' := 32) (l' := [(5, .int s0), (0, .ref 89), (1, .int x1), (2, .int x2), (3, .int x3), (4, .int x4)]) (st' := [.int ((ga V 90 ((13 : Int32)).toNatClampNeg) + x1), .int x2, .int s0, .ref 89, .int x2, .int (gi V 89 8)]) (S1 := (SH ++ X)) (V1 := V) rfl ?_
  obtain ⟨q2, hq2, h⟩ := ai_bd h
  refine rn_call rfl rfl rfl rfl rfl rfl (by omega) (t_M_liftOfAll (by omega) hq2) ?_
  refine rn_go 8 (pc' := 50) (l' := [(6, .int (ai_min (gi V 89 8) (x2 + q2.1))), (5, .int s0), (0, .ref 89), (1, .int x1), (2, .int x2), (3, .int x3), (4, .int x4)]) (st' := [.int (13 : Int32), .ref 90, .int (ai_min (gi V 89 8) (x2 + q2.1)), .ref 89]) (S1 := (SH ++ X)) (V1 := q2.2) rfl ?_
  refine rg_iald (n := 14) rfl rfl (by decide) ?_
  refine rn_go 2 (pc' := 53) (l' := [(6, .int (ai_min (gi V 89 8) (x2 + q2.1))), (5, .int s0), (0, .ref 89), (1, .int x1), (2, .int x2), (3, .int x3), (4, .int x4)]) (st' := [.int ((ga q2.2 90 ((13 : Int32)).toNatClampNeg) + x1), .int (ai_min (gi V 89 8) (x2 + q2.1)), .ref 89]) (S1 := (SH ++ X)) (V1 := q2.2) rfl ?_
  obtain ⟨q3, hq3, h⟩ := ai_bd h
  refine rn_call rfl rfl rfl rfl rfl rfl (by omega) (t_M_takes (by omega) hq3) ?_
  refine rn_go 3 (pc' := 62) (l' := [(7, .int q3.1), (6, .int (ai_min (gi V 89 8) (x2 + q2.1))), (5, .int s0), (0, .ref 89), (1, .int x1), (2, .int x2), (3, .int x3), (4, .int x4)]) (st' := [.int (gi q3.2 89 29)]) (S1 := (SH ++ X)) (V1 := q3.2) rfl ?_
  rcases ai_if h with ⟨hc, h⟩ | ⟨hc, h⟩
  · refine rn_brT rfl rfl rfl rfl hc ?_
    exact rn_sub [3, 4, 6, 7, 0] rfl rfl (t_M_leftBy_74 (X := X) hd x1 x3 x4 q3.1 q3.2 _ h)
  · refine rn_brF rfl rfl rfl rfl hc ?_
    refine rn_go 1 (pc' := 67) (l' := [(7, .int q3.1), (6, .int (ai_min (gi V 89 8) (x2 + q2.1))), (5, .int s0), (0, .ref 89), (1, .int x1), (2, .int x2), (3, .int x3), (4, .int x4)]) (st' := [.int x4]) (S1 := (SH ++ X)) (V1 := q3.2) rfl ?_
    rcases ai_if h with ⟨hc, h⟩ | ⟨hc, h⟩
    · refine rn_brT rfl rfl rfl rfl hc ?_
      exact rn_sub [3, 4, 6, 7, 0] rfl rfl (t_M_leftBy_74 (X := X) hd x1 x3 x4 q3.1 q3.2 _ h)
    · refine rn_brF rfl rfl rfl rfl hc ?_
      refine rn_go 1 (pc' := 73) (l' := [(7, .int q3.1), (6, .int (ai_min (gi V 89 8) (x2 + q2.1))), (5, .int s0), (0, .ref 89), (1, .int x1), (2, .int x2), (3, .int x3), (4, .int x4)]) (st' := [.int (1000000000 : Int32)]) (S1 := (SH ++ X)) (V1 := q3.2) rfl ?_
      obtain rfl := Option.some.inj h
      exact rn_ret rfl rfl rfl
def d_M_leftBy (x1 : Int32) (x2 : Int32) (x3 : Int32) (x4 : Int32) (V : ai_V) : Option (Int32 × ai_V) :=
  if ¬ x3 = (-1 : Int32) then (d_M_leftBy_12 x1 x2 x3 x4 ((1 : Int32) <<< (x3 &&& 31)) V) else (d_M_leftBy_12 x1 x2 x3 x4 (0 : Int32) V)
set_option maxRecDepth 20000 in
theorem t_M_leftBy {X : ai_S} {e : Nat} (hd : 330 ≤ e) {x1 : Int32} {x2 : Int32} {x3 : Int32} {x4 : Int32} {V : ai_V} {r : (Int32 × ai_V)} (h : d_M_leftBy x1 x2 x3 x4 V = some r) : Rn e 205 0 (lv_args 0 [.ref 89, .int x1, .int x2, .int x3, .int x4]) [] (SH ++ X) V (some (.int r.1)) (SH ++ X) r.2 := by
  rw [d_M_leftBy] at h
  refine rn_go 2 (pc' := 2) (l' := [(0, .ref 89), (1, .int x1), (2, .int x2), (3, .int x3), (4, .int x4)]) (st' := [.int (-1 : Int32), .int x3]) (S1 := (SH ++ X)) (V1 := V) rfl ?_
  rcases ai_if h with ⟨hc, h⟩ | ⟨hc, h⟩
  · refine rn_brT rfl rfl rfl rfl hc ?_
    refine rn_go 3 (pc' := 12) (l' := [(0, .ref 89), (1, .int x1), (2, .int x2), (3, .int x3), (4, .int x4)]) (st' := [.int ((1 : Int32) <<< (x3 &&& 31))]) (S1 := (SH ++ X)) (V1 := V) rfl ?_
    exact rn_sub [0, 1, 2, 3, 4] rfl rfl (t_M_leftBy_12 (X := X) hd x1 x2 x3 x4 ((1 : Int32) <<< (x3 &&& 31)) V _ h)
  · refine rn_brF rfl rfl rfl rfl hc ?_
    refine rn_go 2 (pc' := 12) (l' := [(0, .ref 89), (1, .int x1), (2, .int x2), (3, .int x3), (4, .int x4)]) (st' := [.int (0 : Int32)]) (S1 := (SH ++ X)) (V1 := V) rfl ?_
    exact rn_sub [0, 1, 2, 3, 4] rfl rfl (t_M_leftBy_12 (X := X) hd x1 x2 x3 x4 (0 : Int32) V _ h)
-- RentByTheWheelModel.layRows(IIZ)V (89, None, None, None)
def d_M_layRows_118 (F50 : Int32 → Int32 → Int32 → ai_V → Option ai_V) (F58 : Int32 → Int32 → Int32 → Int32 → ai_V → Option ai_V) (F82 : Int32 → Int32 → Int32 → Int32 → Int32 → Int32 → ai_V → Option ai_V) (x1 : Int32) (x3 : Int32) (x4 : Int32) (x5 : Int32) (x6 : Int32) (x7 : Int32) (V : ai_V) : Option ai_V :=
  F82 x1 x3 x4 x5 x6 (x7 + (1 : Int32)) V
set_option maxRecDepth 20000 in
theorem t_M_layRows_118 {X : ai_S} {e : Nat} (hd : 331 ≤ e) (F50 : Int32 → Int32 → Int32 → ai_V → Option ai_V) (hF50 : ∀ (x1 : Int32) (x3 : Int32) (x4 : Int32) (V : ai_V) (r : ai_V), F50 x1 x3 x4 V = some r → Rn e 206 50 [(0, .ref 89), (1, .int x1), (3, .int x3), (4, .int x4)] [] (SH ++ X) V none (SH ++ X) r) (F58 : Int32 → Int32 → Int32 → Int32 → ai_V → Option ai_V) (hF58 : ∀ (x1 : Int32) (x3 : Int32) (x4 : Int32) (x5 : Int32) (V : ai_V) (r : ai_V), F58 x1 x3 x4 x5 V = some r → Rn e 206 58 [(0, .ref 89), (1, .int x1), (3, .int x3), (4, .int x4), (5, .int x5)] [] (SH ++ X) V none (SH ++ X) r) (F82 : Int32 → Int32 → Int32 → Int32 → Int32 → Int32 → ai_V → Option ai_V) (hF82 : ∀ (x1 : Int32) (x3 : Int32) (x4 : Int32) (x5 : Int32) (x6 : Int32) (x7 : Int32) (V : ai_V) (r : ai_V), F82 x1 x3 x4 x5 x6 x7 V = some r → Rn e 206 82 [(0, .ref 89), (1, .int x1), (3, .int x3), (4, .int x4), (5, .int x5), (6, .int x6), (7, .int x7)] [] (SH ++ X) V none (SH ++ X) r) (x1 : Int32) (x3 : Int32) (x4 : Int32) (x5 : Int32) (x6 : Int32) (x7 : Int32) (V : ai_V) (r : ai_V) (h : d_M_layRows_118 F50 F58 F82 x1 x3 x4 x5 x6 x7 V = some r) : Rn e 206 118 [(0, .ref 89), (1, .int x1), (3, .int x3), (4, .int x4), (5, .int x5), (6, .int x6), (7, .int x7)] [] (SH ++ X) V none (SH ++ X) r := by
  rw [d_M_layRows_118] at h
  refine rn_go 2 (pc' := 82) (l' := [(7, .int (x7 + (1 : Int32))), (0, .ref 89), (1, .int x1), (3, .int x3), (4, .int x4), (5, .int x5), (6, .int x6)]) (st' := []) (S1 := (SH ++ X)) (V1 := V) rfl ?_
  exact rn_sub [1, 2, 3, 4, 5, 6, 0] rfl rfl (hF82 x1 x3 x4 x5 x6 (x7 + (1 : Int32)) V _ h)
def d_M_layRows_82 (F50 : Int32 → Int32 → Int32 → ai_V → Option ai_V) (F58 : Int32 → Int32 → Int32 → Int32 → ai_V → Option ai_V) : Nat → Int32 → Int32 → Int32 → Int32 → Int32 → Int32 → ai_V → Option ai_V
  | 0, _, _, _, _, _, _, _ => none
  | n + 1, x1, x3, x4, x5, x6, x7, V => if (gi V 89 1) ≤ x7 then (if ai_in (((1000 : Int32) * x4) + x5) 13000 then (F58 x1 x3 x4 (x5 + (1 : Int32)) (sa V 104 ((((1000 : Int32) * x4) + x5)).toNatClampNeg x6)) else none) else ((d_M_has x1 x7 V).bind fun q1 => (if q1 = 0 then (d_M_layRows_118 F50 F58 (d_M_layRows_82 F50 F58 n) x1 x3 x4 x5 x6 x7 V) else ((d_M_leftBy x4 x5 x7 x3 V).bind fun q2 => (d_M_layRows_118 F50 F58 (d_M_layRows_82 F50 F58 n) x1 x3 x4 x5 (ai_min x6 q2.1) x7 q2.2))))
set_option maxRecDepth 20000 in
theorem t_M_layRows_82 {X : ai_S} {e : Nat} (hd : 331 ≤ e) (F50 : Int32 → Int32 → Int32 → ai_V → Option ai_V) (hF50 : ∀ (x1 : Int32) (x3 : Int32) (x4 : Int32) (V : ai_V) (r : ai_V), F50 x1 x3 x4 V = some r → Rn e 206 50 [(0, .ref 89), (1, .int x1), (3, .int x3), (4, .int x4)] [] (SH ++ X) V none (SH ++ X) r) (F58 : Int32 → Int32 → Int32 → Int32 → ai_V → Option ai_V) (hF58 : ∀ (x1 : Int32) (x3 : Int32) (x4 : Int32) (x5 : Int32) (V : ai_V) (r : ai_V), F58 x1 x3 x4 x5 V = some r → Rn e 206 58 [(0, .ref 89), (1, .int x1), (3, .int x3), (4, .int x4), (5, .int x5)] [] (SH ++ X) V none (SH ++ X) r) : ∀ (n : Nat) (x1 : Int32) (x3 : Int32) (x4 : Int32) (x5 : Int32) (x6 : Int32) (x7 : Int32) (V : ai_V) (r : ai_V), d_M_layRows_82 F50 F58 n x1 x3 x4 x5 x6 x7 V = some r → Rn e 206 82 [(0, .ref 89), (1, .int x1), (3, .int x3), (4, .int x4), (5, .int x5), (6, .int x6), (7, .int x7)] [] (SH ++ X) V none (SH ++ X) r := by
  intro n
  induction n with
  | zero =>
    intro x1 x3 x4 x5 x6 x7 V r h
    cases h
  | succ n ih =>
    intro x1 x3 x4 x5 x6 x7 V r h
    rw [d_M_layRows_82] at h
    refine rn_go 3 (pc' := 88) (l' := [(0, .ref 89), (1, .int x1), (3, .int x3), (4, .int x4), (5, .int x5), (6, .int x6), (7, .int x7)]) (st' := [.int (gi V 89 1), .int x7]) (S1 := (SH ++ X)) (V1 := V) rfl ?_
    rcases ai_if h with ⟨hc, h⟩ | ⟨hc, h⟩
    · refine rn_brT rfl rfl rfl rfl hc ?_
      refine rn_go 8 (pc' := 139) (l' := [(0, .ref 89), (1, .int x1), (3, .int x3), (4, .int x4), (5, .int x5), (6, .int x6), (7, .int x7)]) (st' := [.int x6, .int (((1000 : Int32) * x4) + x5), .ref 104]) (S1 := (SH ++ X)) (V1 := V) rfl ?_
      obtain ⟨hg, h⟩ := ai_gd h
      refine rg_iast (n := 13000) rfl rfl hg ?_
      refine rn_go 2 (pc' := 58) (l' := [(5, .int (x5 + (1 : Int32))), (0, .ref 89), (1, .int x1), (3, .int x3), (4, .int x4), (6, .int x6), (7, .int x7)]) (st' := []) (S1 := (SH ++ X)) (V1 := (sa V 104 ((((1000 : Int32) * x4) + x5)).toNatClampNeg x6)) rfl ?_
      exact rn_sub [1, 2, 3, 4, 0] rfl rfl (hF58 x1 x3 x4 (x5 + (1 : Int32)) (sa V 104 ((((1000 : Int32) * x4) + x5)).toNatClampNeg x6) _ h)
    · refine rn_brF rfl rfl rfl rfl hc ?_
      refine rn_go 2 (pc' := 94) (l' := [(0, .ref 89), (1, .int x1), (3, .int x3), (4, .int x4), (5, .int x5), (6, .int x6), (7, .int x7)]) (st' := [.int x7, .int x1]) (S1 := (SH ++ X)) (V1 := V) rfl ?_
      obtain ⟨q1, hq1, h⟩ := ai_bd h
      refine rn_call rfl rfl rfl rfl rfl rfl (by omega) (t_M_has (by omega) hq1) ?_
      rcases ai_if h with ⟨hc, h⟩ | ⟨hc, h⟩
      · refine rn_brT rfl rfl rfl rfl hc ?_
        exact rn_sub [0, 1, 2, 3, 4, 5, 6] rfl rfl (t_M_layRows_118 (X := X) hd F50 hF50 F58 hF58 (d_M_layRows_82 F50 F58 n) (ih) x1 x3 x4 x5 x6 x7 V _ h)
      · refine rn_brF rfl rfl rfl rfl hc ?_
        refine rn_go 6 (pc' := 110) (l' := [(0, .ref 89), (1, .int x1), (3, .int x3), (4, .int x4), (5, .int x5), (6, .int x6), (7, .int x7)]) (st' := [.int x3, .int x7, .int x5, .int x4, .ref 89, .int x6]) (S1 := (SH ++ X)) (V1 := V) rfl ?_
        obtain ⟨q2, hq2, h⟩ := ai_bd h
        refine rn_call rfl rfl rfl rfl rfl rfl (by omega) (t_M_leftBy (by omega) hq2) ?_
        refine rn_go 2 (pc' := 118) (l' := [(6, .int (ai_min x6 q2.1)), (0, .ref 89), (1, .int x1), (3, .int x3), (4, .int x4), (5, .int x5), (7, .int x7)]) (st' := []) (S1 := (SH ++ X)) (V1 := q2.2) rfl ?_
        exact rn_sub [1, 2, 3, 4, 5, 0, 6] rfl rfl (t_M_layRows_118 (X := X) hd F50 hF50 F58 hF58 (d_M_layRows_82 F50 F58 n) (ih) x1 x3 x4 x5 (ai_min x6 q2.1) x7 q2.2 _ h)
def d_M_layRows_58 (F50 : Int32 → Int32 → Int32 → ai_V → Option ai_V) : Nat → Int32 → Int32 → Int32 → Int32 → ai_V → Option ai_V
  | 0, _, _, _, _, _ => none
  | n + 1, x1, x3, x4, x5, V => if (gi V 89 8) < x5 then (F50 x1 x3 (x4 + (-1 : Int32)) V) else ((d_M_leftBy x4 x5 (-1 : Int32) x3 V).bind fun q3 => (d_M_layRows_82 F50 (d_M_layRows_58 F50 n) ai_N x1 x3 x4 x5 q3.1 (0 : Int32) q3.2))
set_option maxRecDepth 20000 in
theorem t_M_layRows_58 {X : ai_S} {e : Nat} (hd : 331 ≤ e) (F50 : Int32 → Int32 → Int32 → ai_V → Option ai_V) (hF50 : ∀ (x1 : Int32) (x3 : Int32) (x4 : Int32) (V : ai_V) (r : ai_V), F50 x1 x3 x4 V = some r → Rn e 206 50 [(0, .ref 89), (1, .int x1), (3, .int x3), (4, .int x4)] [] (SH ++ X) V none (SH ++ X) r) : ∀ (n : Nat) (x1 : Int32) (x3 : Int32) (x4 : Int32) (x5 : Int32) (V : ai_V) (r : ai_V), d_M_layRows_58 F50 n x1 x3 x4 x5 V = some r → Rn e 206 58 [(0, .ref 89), (1, .int x1), (3, .int x3), (4, .int x4), (5, .int x5)] [] (SH ++ X) V none (SH ++ X) r := by
  intro n
  induction n with
  | zero =>
    intro x1 x3 x4 x5 V r h
    cases h
  | succ n ih =>
    intro x1 x3 x4 x5 V r h
    rw [d_M_layRows_58] at h
    refine rn_go 3 (pc' := 64) (l' := [(0, .ref 89), (1, .int x1), (3, .int x3), (4, .int x4), (5, .int x5)]) (st' := [.int (gi V 89 8), .int x5]) (S1 := (SH ++ X)) (V1 := V) rfl ?_
    rcases ai_if h with ⟨hc, h⟩ | ⟨hc, h⟩
    · refine rn_brT rfl rfl rfl rfl hc ?_
      refine rn_go 2 (pc' := 50) (l' := [(4, .int (x4 + (-1 : Int32))), (0, .ref 89), (1, .int x1), (3, .int x3), (5, .int x5)]) (st' := []) (S1 := (SH ++ X)) (V1 := V) rfl ?_
      exact rn_sub [1, 2, 3, 0] rfl rfl (hF50 x1 x3 (x4 + (-1 : Int32)) V _ h)
    · refine rn_brF rfl rfl rfl rfl hc ?_
      refine rn_go 5 (pc' := 74) (l' := [(0, .ref 89), (1, .int x1), (3, .int x3), (4, .int x4), (5, .int x5)]) (st' := [.int x3, .int (-1 : Int32), .int x5, .int x4, .ref 89]) (S1 := (SH ++ X)) (V1 := V) rfl ?_
      obtain ⟨q3, hq3, h⟩ := ai_bd h
      refine rn_call rfl rfl rfl rfl rfl rfl (by omega) (t_M_leftBy (by omega) hq3) ?_
      refine rn_go 3 (pc' := 82) (l' := [(7, .int (0 : Int32)), (6, .int q3.1), (0, .ref 89), (1, .int x1), (3, .int x3), (4, .int x4), (5, .int x5)]) (st' := []) (S1 := (SH ++ X)) (V1 := q3.2) rfl ?_
      exact rn_sub [2, 3, 4, 5, 6, 1, 0] rfl rfl (t_M_layRows_82 (X := X) hd F50 hF50 (d_M_layRows_58 F50 n) (ih) ai_N x1 x3 x4 x5 q3.1 (0 : Int32) q3.2 _ h)
def d_M_layRows_50  : Nat → Int32 → Int32 → Int32 → ai_V → Option ai_V
  | 0, _, _, _, _ => none
  | n + 1, x1, x3, x4, V => if x4 < 0 then (some V) else (d_M_layRows_58 (d_M_layRows_50 n) ai_N x1 x3 x4 (0 : Int32) V)
set_option maxRecDepth 20000 in
theorem t_M_layRows_50 {X : ai_S} {e : Nat} (hd : 331 ≤ e)  : ∀ (n : Nat) (x1 : Int32) (x3 : Int32) (x4 : Int32) (V : ai_V) (r : ai_V), d_M_layRows_50  n x1 x3 x4 V = some r → Rn e 206 50 [(0, .ref 89), (1, .int x1), (3, .int x3), (4, .int x4)] [] (SH ++ X) V none (SH ++ X) r := by
  intro n
  induction n with
  | zero =>
    intro x1 x3 x4 V r h
    cases h
  | succ n ih =>
    intro x1 x3 x4 V r h
    rw [d_M_layRows_50] at h
    refine rn_go 1 (pc' := 52) (l' := [(0, .ref 89), (1, .int x1), (3, .int x3), (4, .int x4)]) (st' := [.int x4]) (S1 := (SH ++ X)) (V1 := V) rfl ?_
    rcases ai_if h with ⟨hc, h⟩ | ⟨hc, h⟩
    · refine rn_brT rfl rfl rfl rfl hc ?_
      obtain rfl := Option.some.inj h
      exact rn_ret rfl rfl rfl
    · refine rn_brF rfl rfl rfl rfl hc ?_
      refine rn_go 2 (pc' := 58) (l' := [(5, .int (0 : Int32)), (0, .ref 89), (1, .int x1), (3, .int x3), (4, .int x4)]) (st' := []) (S1 := (SH ++ X)) (V1 := V) rfl ?_
      exact rn_sub [1, 2, 3, 4, 0] rfl rfl (t_M_layRows_58 (X := X) hd (d_M_layRows_50 n) (ih) ai_N x1 x3 x4 (0 : Int32) V _ h)
def d_M_layRows_38 (F3 : Int32 → Int32 → Int32 → Int32 → ai_V → Option ai_V) (x1 : Int32) (x2 : Int32) (x3 : Int32) (x4 : Int32) (s0 : Int32) (s1 : Int32) (V : ai_V) : Option ai_V :=
  if ai_in s1 13000 then (F3 x1 x2 x3 (x4 + (1 : Int32)) (sa V 104 (s1).toNatClampNeg s0)) else none
set_option maxRecDepth 20000 in
theorem t_M_layRows_38 {X : ai_S} {e : Nat} (hd : 331 ≤ e) (F3 : Int32 → Int32 → Int32 → Int32 → ai_V → Option ai_V) (hF3 : ∀ (x1 : Int32) (x2 : Int32) (x3 : Int32) (x4 : Int32) (V : ai_V) (r : ai_V), F3 x1 x2 x3 x4 V = some r → Rn e 206 3 [(0, .ref 89), (1, .int x1), (2, .int x2), (3, .int x3), (4, .int x4)] [] (SH ++ X) V none (SH ++ X) r) (x1 : Int32) (x2 : Int32) (x3 : Int32) (x4 : Int32) (s0 : Int32) (s1 : Int32) (V : ai_V) (r : ai_V) (h : d_M_layRows_38 F3 x1 x2 x3 x4 s0 s1 V = some r) : Rn e 206 38 [(0, .ref 89), (1, .int x1), (2, .int x2), (3, .int x3), (4, .int x4)] [.int s0, .int s1, .ref 104] (SH ++ X) V none (SH ++ X) r := by
  rw [d_M_layRows_38] at h
  obtain ⟨hg, h⟩ := ai_gd h
  refine rg_iast (n := 13000) rfl rfl hg ?_
  refine rn_go 2 (pc' := 3) (l' := [(4, .int (x4 + (1 : Int32))), (0, .ref 89), (1, .int x1), (2, .int x2), (3, .int x3)]) (st' := []) (S1 := (SH ++ X)) (V1 := (sa V 104 (s1).toNatClampNeg s0)) rfl ?_
  exact rn_sub [1, 2, 3, 4, 0] rfl rfl (hF3 x1 x2 x3 (x4 + (1 : Int32)) (sa V 104 (s1).toNatClampNeg s0) _ h)
def d_M_layRows_3  : Nat → Int32 → Int32 → Int32 → Int32 → ai_V → Option ai_V
  | 0, _, _, _, _, _ => none
  | n + 1, x1, x2, x3, x4, V => if (gi V 89 8) < x4 then (d_M_layRows_50 ai_N x1 x3 (x2 - (1 : Int32)) V) else (if x3 = 0 then (d_M_layRows_38 (d_M_layRows_3 n) x1 x2 x3 x4 ((999 : Int32) - x4) (((1000 : Int32) * x2) + x4) V) else (d_M_layRows_38 (d_M_layRows_3 n) x1 x2 x3 x4 (0 : Int32) (((1000 : Int32) * x2) + x4) V))
set_option maxRecDepth 20000 in
theorem t_M_layRows_3 {X : ai_S} {e : Nat} (hd : 331 ≤ e)  : ∀ (n : Nat) (x1 : Int32) (x2 : Int32) (x3 : Int32) (x4 : Int32) (V : ai_V) (r : ai_V), d_M_layRows_3  n x1 x2 x3 x4 V = some r → Rn e 206 3 [(0, .ref 89), (1, .int x1), (2, .int x2), (3, .int x3), (4, .int x4)] [] (SH ++ X) V none (SH ++ X) r := by
  intro n
  induction n with
  | zero =>
    intro x1 x2 x3 x4 V r h
    cases h
  | succ n ih =>
    intro x1 x2 x3 x4 V r h
    rw [d_M_layRows_3] at h
    refine rn_go 3 (pc' := 9) (l' := [(0, .ref 89), (1, .int x1), (2, .int x2), (3, .int x3), (4, .int x4)]) (st' := [.int (gi V 89 8), .int x4]) (S1 := (SH ++ X)) (V1 := V) rfl ?_
    rcases ai_if h with ⟨hc, h⟩ | ⟨hc, h⟩
    · refine rn_brT rfl rfl rfl rfl hc ?_
      refine rn_go 4 (pc' := 50) (l' := [(4, .int (x2 - (1 : Int32))), (0, .ref 89), (1, .int x1), (2, .int x2), (3, .int x3)]) (st' := []) (S1 := (SH ++ X)) (V1 := V) rfl ?_
      exact rn_sub [1, 2, 4, 0] rfl rfl (t_M_layRows_50 (X := X) hd ai_N x1 x3 (x2 - (1 : Int32)) V _ h)
    · refine rn_brF rfl rfl rfl rfl hc ?_
      refine rn_go 8 (pc' := 25) (l' := [(0, .ref 89), (1, .int x1), (2, .int x2), (3, .int x3), (4, .int x4)]) (st' := [.int x3, .int (((1000 : Int32) * x2) + x4), .ref 104]) (S1 := (SH ++ X)) (V1 := V) rfl ?_
      rcases ai_if h with ⟨hc, h⟩ | ⟨hc, h⟩
      · refine rn_brT rfl rfl rfl rfl hc ?_
        refine rn_go 3 (pc' := 38) (l' := [(0, .ref 89), (1, .int x1), (2, .int x2), (3, .int x3), (4, .int x4)]) (st' := [.int ((999 : Int32) - x4), .int (((1000 : Int32) * x2) + x4), .ref 104]) (S1 := (SH ++ X)) (V1 := V) rfl ?_
        exact rn_sub [0, 1, 2, 3, 4] rfl rfl (t_M_layRows_38 (X := X) hd (d_M_layRows_3 n) (ih) x1 x2 x3 x4 ((999 : Int32) - x4) (((1000 : Int32) * x2) + x4) V _ h)
      · refine rn_brF rfl rfl rfl rfl hc ?_
        refine rn_go 2 (pc' := 38) (l' := [(0, .ref 89), (1, .int x1), (2, .int x2), (3, .int x3), (4, .int x4)]) (st' := [.int (0 : Int32), .int (((1000 : Int32) * x2) + x4), .ref 104]) (S1 := (SH ++ X)) (V1 := V) rfl ?_
        exact rn_sub [0, 1, 2, 3, 4] rfl rfl (t_M_layRows_38 (X := X) hd (d_M_layRows_3 n) (ih) x1 x2 x3 x4 (0 : Int32) (((1000 : Int32) * x2) + x4) V _ h)
def d_M_layRows (x1 : Int32) (x2 : Int32) (x3 : Int32) (V : ai_V) : Option ai_V :=
  d_M_layRows_3 ai_N x1 x2 x3 (0 : Int32) V
set_option maxRecDepth 20000 in
theorem t_M_layRows {X : ai_S} {e : Nat} (hd : 331 ≤ e) {x1 : Int32} {x2 : Int32} {x3 : Int32} {V : ai_V} {r : ai_V} (h : d_M_layRows x1 x2 x3 V = some r) : Rn e 206 0 (lv_args 0 [.ref 89, .int x1, .int x2, .int x3]) [] (SH ++ X) V none (SH ++ X) r := by
  rw [d_M_layRows] at h
  refine rn_go 2 (pc' := 3) (l' := [(4, .int (0 : Int32)), (0, .ref 89), (1, .int x1), (2, .int x2), (3, .int x3)]) (st' := []) (S1 := (SH ++ X)) (V1 := V) rfl ?_
  exact rn_sub [1, 2, 3, 4, 0] rfl rfl (t_M_layRows_3 (X := X) hd ai_N x1 x2 x3 (0 : Int32) V _ h)
-- RentByTheWheelModel.tellRow(IIZ)V (89, None, None, None)
def d_M_tellRow_104 (F17 : Int32 → Int32 → Int32 → Int32 → Int32 → ai_V → Option ai_V) (x1 : Int32) (x2 : Int32) (x3 : Int32) (x4 : Int32) (x5 : Int32) (s0 : Int32) (s2 : Int32) (s3 : Int32) (V : ai_V) : Option ai_V :=
  (d_M_liftOfAll s0 x4 ((ga V 90 ((13 : Int32)).toNatClampNeg) + x5) V).bind fun q1 => ((d_M_takes (ai_min s3 (s2 + q1.1)) ((ga q1.2 90 ((13 : Int32)).toNatClampNeg) + x5) q1.2).bind fun q2 => (F17 x1 x2 x3 q2.1 (x5 + (1 : Int32)) q2.2))
set_option maxRecDepth 20000 in
theorem t_M_tellRow_104 {X : ai_S} {e : Nat} (hd : 331 ≤ e) (F17 : Int32 → Int32 → Int32 → Int32 → Int32 → ai_V → Option ai_V) (hF17 : ∀ (x1 : Int32) (x2 : Int32) (x3 : Int32) (x4 : Int32) (x5 : Int32) (V : ai_V) (r : ai_V), F17 x1 x2 x3 x4 x5 V = some r → Rn e 207 17 [(0, .ref 89), (1, .int x1), (2, .int x2), (3, .int x3), (4, .int x4), (5, .int x5)] [] (SH ++ X) V none (SH ++ X) r) (x1 : Int32) (x2 : Int32) (x3 : Int32) (x4 : Int32) (x5 : Int32) (s0 : Int32) (s2 : Int32) (s3 : Int32) (V : ai_V) (r : ai_V) (h : d_M_tellRow_104 F17 x1 x2 x3 x4 x5 s0 s2 s3 V = some r) : Rn e 207 104 [(0, .ref 89), (1, .int x1), (2, .int x2), (3, .int x3), (4, .int x4), (5, .int x5)] [.int s0, .ref 89, .int s2, .int s3, .ref 89] (SH ++ X) V none (SH ++ X) r := by
  rw [d_M_tellRow_104] at h
  refine rn_go 4 (pc' := 112) (l' := [(0, .ref 89), (1, .int x1), (2, .int x2), (3, .int x3), (4, .int x4), (5, .int x5)]) (st' := [.int (13 : Int32), .ref 90, .int x4, .int s0, .ref 89, .int s2, .int s3, .ref 89]) (S1 := (SH ++ X)) (V1 := V) rfl ?_
  refine rg_iald (n := 14) rfl rfl (by decide) ?_
  refine rn_go 2 (pc' := 116) (l' := [(0, .ref 89), (1, .int x1), (2, .int x2), (3, .int x3), (4, .int x4), (5, .int x5)]) (st' := [.int ((ga V 90 ((13 : Int32)).toNatClampNeg) + x5), .int x4, .int s0, .ref 89, .int s2, .int s3, .ref 89]) (S1 := (SH ++ X)) (V1 := V) rfl ?_
  obtain ⟨q1, hq1, h⟩ := ai_bd h
  refine rn_call rfl rfl rfl rfl rfl rfl (by omega) (t_M_liftOfAll (by omega) hq1) ?_
  refine rn_go 5 (pc' := 129) (l' := [(0, .ref 89), (1, .int x1), (2, .int x2), (3, .int x3), (4, .int x4), (5, .int x5)]) (st' := [.int (13 : Int32), .ref 90, .int (ai_min s3 (s2 + q1.1)), .ref 89]) (S1 := (SH ++ X)) (V1 := q1.2) rfl ?_
  refine rg_iald (n := 14) rfl rfl (by decide) ?_
  refine rn_go 2 (pc' := 133) (l' := [(0, .ref 89), (1, .int x1), (2, .int x2), (3, .int x3), (4, .int x4), (5, .int x5)]) (st' := [.int ((ga q1.2 90 ((13 : Int32)).toNatClampNeg) + x5), .int (ai_min s3 (s2 + q1.1)), .ref 89]) (S1 := (SH ++ X)) (V1 := q1.2) rfl ?_
  obtain ⟨q2, hq2, h⟩ := ai_bd h
  refine rn_call rfl rfl rfl rfl rfl rfl (by omega) (t_M_takes (by omega) hq2) ?_
  refine rn_go 3 (pc' := 17) (l' := [(5, .int (x5 + (1 : Int32))), (4, .int q2.1), (0, .ref 89), (1, .int x1), (2, .int x2), (3, .int x3)]) (st' := []) (S1 := (SH ++ X)) (V1 := q2.2) rfl ?_
  exact rn_sub [2, 3, 4, 5, 1, 0] rfl rfl (hF17 x1 x2 x3 q2.1 (x5 + (1 : Int32)) q2.2 _ h)
def d_M_tellRow_69 (F17 : Int32 → Int32 → Int32 → Int32 → Int32 → ai_V → Option ai_V) (F26 : Int32 → Int32 → Int32 → Int32 → Int32 → Int32 → ai_V → Option ai_V) (x1 : Int32) (x2 : Int32) (x3 : Int32) (x4 : Int32) (x5 : Int32) (x6 : Int32) (V : ai_V) : Option ai_V :=
  F26 x1 x2 x3 x4 x5 (x6 + (1 : Int32)) V
set_option maxRecDepth 20000 in
theorem t_M_tellRow_69 {X : ai_S} {e : Nat} (hd : 331 ≤ e) (F17 : Int32 → Int32 → Int32 → Int32 → Int32 → ai_V → Option ai_V) (hF17 : ∀ (x1 : Int32) (x2 : Int32) (x3 : Int32) (x4 : Int32) (x5 : Int32) (V : ai_V) (r : ai_V), F17 x1 x2 x3 x4 x5 V = some r → Rn e 207 17 [(0, .ref 89), (1, .int x1), (2, .int x2), (3, .int x3), (4, .int x4), (5, .int x5)] [] (SH ++ X) V none (SH ++ X) r) (F26 : Int32 → Int32 → Int32 → Int32 → Int32 → Int32 → ai_V → Option ai_V) (hF26 : ∀ (x1 : Int32) (x2 : Int32) (x3 : Int32) (x4 : Int32) (x5 : Int32) (x6 : Int32) (V : ai_V) (r : ai_V), F26 x1 x2 x3 x4 x5 x6 V = some r → Rn e 207 26 [(0, .ref 89), (1, .int x1), (2, .int x2), (3, .int x3), (4, .int x4), (5, .int x5), (6, .int x6)] [] (SH ++ X) V none (SH ++ X) r) (x1 : Int32) (x2 : Int32) (x3 : Int32) (x4 : Int32) (x5 : Int32) (x6 : Int32) (V : ai_V) (r : ai_V) (h : d_M_tellRow_69 F17 F26 x1 x2 x3 x4 x5 x6 V = some r) : Rn e 207 69 [(0, .ref 89), (1, .int x1), (2, .int x2), (3, .int x3), (4, .int x4), (5, .int x5), (6, .int x6)] [] (SH ++ X) V none (SH ++ X) r := by
  rw [d_M_tellRow_69] at h
  refine rn_go 2 (pc' := 26) (l' := [(6, .int (x6 + (1 : Int32))), (0, .ref 89), (1, .int x1), (2, .int x2), (3, .int x3), (4, .int x4), (5, .int x5)]) (st' := []) (S1 := (SH ++ X)) (V1 := V) rfl ?_
  exact rn_sub [1, 2, 3, 4, 5, 6, 0] rfl rfl (hF26 x1 x2 x3 x4 x5 (x6 + (1 : Int32)) V _ h)
def d_M_tellRow_41 (F17 : Int32 → Int32 → Int32 → Int32 → Int32 → ai_V → Option ai_V) (F26 : Int32 → Int32 → Int32 → Int32 → Int32 → Int32 → ai_V → Option ai_V) (x1 : Int32) (x2 : Int32) (x3 : Int32) (x4 : Int32) (x5 : Int32) (x6 : Int32) (V : ai_V) : Option ai_V :=
  (d_M_leftBy x5 x4 x6 x3 V).bind fun q3 => (if ai_in (((1000 : Int32) * x5) + x4) 13000 then (if q3.1 = (ga q3.2 104 ((((1000 : Int32) * x5) + x4)).toNatClampNeg) then ((d_M_tell (x6).toInt64 q3.2).bind fun q4 => (if ¬ x6 = (-1 : Int32) then (d_M_tellRow_104 F17 x1 x2 x3 x4 x5 ((1 : Int32) <<< (x6 &&& 31)) x4 (gi q4 89 8) q4) else (d_M_tellRow_104 F17 x1 x2 x3 x4 x5 (0 : Int32) x4 (gi q4 89 8) q4))) else (d_M_tellRow_69 F17 F26 x1 x2 x3 x4 x5 x6 q3.2)) else none)
set_option maxRecDepth 20000 in
theorem t_M_tellRow_41 {X : ai_S} {e : Nat} (hd : 331 ≤ e) (F17 : Int32 → Int32 → Int32 → Int32 → Int32 → ai_V → Option ai_V) (hF17 : ∀ (x1 : Int32) (x2 : Int32) (x3 : Int32) (x4 : Int32) (x5 : Int32) (V : ai_V) (r : ai_V), F17 x1 x2 x3 x4 x5 V = some r → Rn e 207 17 [(0, .ref 89), (1, .int x1), (2, .int x2), (3, .int x3), (4, .int x4), (5, .int x5)] [] (SH ++ X) V none (SH ++ X) r) (F26 : Int32 → Int32 → Int32 → Int32 → Int32 → Int32 → ai_V → Option ai_V) (hF26 : ∀ (x1 : Int32) (x2 : Int32) (x3 : Int32) (x4 : Int32) (x5 : Int32) (x6 : Int32) (V : ai_V) (r : ai_V), F26 x1 x2 x3 x4 x5 x6 V = some r → Rn e 207 26 [(0, .ref 89), (1, .int x1), (2, .int x2), (3, .int x3), (4, .int x4), (5, .int x5), (6, .int x6)] [] (SH ++ X) V none (SH ++ X) r) (x1 : Int32) (x2 : Int32) (x3 : Int32) (x4 : Int32) (x5 : Int32) (x6 : Int32) (V : ai_V) (r : ai_V) (h : d_M_tellRow_41 F17 F26 x1 x2 x3 x4 x5 x6 V = some r) : Rn e 207 41 [(0, .ref 89), (1, .int x1), (2, .int x2), (3, .int x3), (4, .int x4), (5, .int x5), (6, .int x6)] [] (SH ++ X) V none (SH ++ X) r := by
  rw [d_M_tellRow_41] at h
  refine rn_go 5 (pc' := 49) (l' := [(0, .ref 89), (1, .int x1), (2, .int x2), (3, .int x3), (4, .int x4), (5, .int x5), (6, .int x6)]) (st' := [.int x3, .int x6, .int x4, .int x5, .ref 89]) (S1 := (SH ++ X)) (V1 := V) rfl ?_
  obtain ⟨q3, hq3, h⟩ := ai_bd h
  refine rn_call rfl rfl rfl rfl rfl rfl (by omega) (t_M_leftBy (by omega) hq3) ?_
  refine rn_go 7 (pc' := 65) (l' := [(0, .ref 89), (1, .int x1), (2, .int x2), (3, .int x3), (4, .int x4), (5, .int x5), (6, .int x6)]) (st' := [.int (((1000 : Int32) * x5) + x4), .ref 104, .int q3.1]) (S1 := (SH ++ X)) (V1 := q3.2) rfl ?_
  obtain ⟨hg, h⟩ := ai_gd h
  refine rg_iald (n := 13000) rfl rfl hg ?_
  rcases ai_if h with ⟨hc, h⟩ | ⟨hc, h⟩
  · refine rn_brT rfl rfl rfl rfl hc ?_
    refine rn_go 3 (pc' := 79) (l' := [(0, .ref 89), (1, .int x1), (2, .int x2), (3, .int x3), (4, .int x4), (5, .int x5), (6, .int x6)]) (st' := [.long (x6).toInt64, .ref 89]) (S1 := (SH ++ X)) (V1 := q3.2) rfl ?_
    obtain ⟨q4, hq4, h⟩ := ai_bd h
    refine rn_call rfl rfl rfl rfl rfl rfl (by omega) (t_M_tell (by omega) hq4) ?_
    refine rn_go 7 (pc' := 93) (l' := [(0, .ref 89), (1, .int x1), (2, .int x2), (3, .int x3), (4, .int x4), (5, .int x5), (6, .int x6)]) (st' := [.int (-1 : Int32), .int x6, .ref 89, .int x4, .int (gi q4 89 8), .ref 89]) (S1 := (SH ++ X)) (V1 := q4) rfl ?_
    rcases ai_if h with ⟨hc, h⟩ | ⟨hc, h⟩
    · refine rn_brT rfl rfl rfl rfl hc ?_
      refine rn_go 3 (pc' := 104) (l' := [(0, .ref 89), (1, .int x1), (2, .int x2), (3, .int x3), (4, .int x4), (5, .int x5), (6, .int x6)]) (st' := [.int ((1 : Int32) <<< (x6 &&& 31)), .ref 89, .int x4, .int (gi q4 89 8), .ref 89]) (S1 := (SH ++ X)) (V1 := q4) rfl ?_
      exact rn_sub [0, 1, 2, 3, 4, 5] rfl rfl (t_M_tellRow_104 (X := X) hd F17 hF17 x1 x2 x3 x4 x5 ((1 : Int32) <<< (x6 &&& 31)) x4 (gi q4 89 8) q4 _ h)
    · refine rn_brF rfl rfl rfl rfl hc ?_
      refine rn_go 2 (pc' := 104) (l' := [(0, .ref 89), (1, .int x1), (2, .int x2), (3, .int x3), (4, .int x4), (5, .int x5), (6, .int x6)]) (st' := [.int (0 : Int32), .ref 89, .int x4, .int (gi q4 89 8), .ref 89]) (S1 := (SH ++ X)) (V1 := q4) rfl ?_
      exact rn_sub [0, 1, 2, 3, 4, 5] rfl rfl (t_M_tellRow_104 (X := X) hd F17 hF17 x1 x2 x3 x4 x5 (0 : Int32) x4 (gi q4 89 8) q4 _ h)
  · refine rn_brF rfl rfl rfl rfl hc ?_
    exact rn_sub [0, 1, 2, 3, 4, 5, 6] rfl rfl (t_M_tellRow_69 (X := X) hd F17 hF17 F26 hF26 x1 x2 x3 x4 x5 x6 q3.2 _ h)
def d_M_tellRow_26 (F17 : Int32 → Int32 → Int32 → Int32 → Int32 → ai_V → Option ai_V) : Nat → Int32 → Int32 → Int32 → Int32 → Int32 → Int32 → ai_V → Option ai_V
  | 0, _, _, _, _, _, _, _ => none
  | n + 1, x1, x2, x3, x4, x5, x6, V => if x6 = (-1 : Int32) then (d_M_tellRow_41 F17 (d_M_tellRow_26 F17 n) x1 x2 x3 x4 x5 x6 V) else ((d_M_has x1 x6 V).bind fun q5 => (if q5 = 0 then (d_M_tellRow_69 F17 (d_M_tellRow_26 F17 n) x1 x2 x3 x4 x5 x6 V) else (d_M_tellRow_41 F17 (d_M_tellRow_26 F17 n) x1 x2 x3 x4 x5 x6 V)))
set_option maxRecDepth 20000 in
theorem t_M_tellRow_26 {X : ai_S} {e : Nat} (hd : 331 ≤ e) (F17 : Int32 → Int32 → Int32 → Int32 → Int32 → ai_V → Option ai_V) (hF17 : ∀ (x1 : Int32) (x2 : Int32) (x3 : Int32) (x4 : Int32) (x5 : Int32) (V : ai_V) (r : ai_V), F17 x1 x2 x3 x4 x5 V = some r → Rn e 207 17 [(0, .ref 89), (1, .int x1), (2, .int x2), (3, .int x3), (4, .int x4), (5, .int x5)] [] (SH ++ X) V none (SH ++ X) r) : ∀ (n : Nat) (x1 : Int32) (x2 : Int32) (x3 : Int32) (x4 : Int32) (x5 : Int32) (x6 : Int32) (V : ai_V) (r : ai_V), d_M_tellRow_26 F17 n x1 x2 x3 x4 x5 x6 V = some r → Rn e 207 26 [(0, .ref 89), (1, .int x1), (2, .int x2), (3, .int x3), (4, .int x4), (5, .int x5), (6, .int x6)] [] (SH ++ X) V none (SH ++ X) r := by
  intro n
  induction n with
  | zero =>
    intro x1 x2 x3 x4 x5 x6 V r h
    cases h
  | succ n ih =>
    intro x1 x2 x3 x4 x5 x6 V r h
    rw [d_M_tellRow_26] at h
    refine rn_go 2 (pc' := 29) (l' := [(0, .ref 89), (1, .int x1), (2, .int x2), (3, .int x3), (4, .int x4), (5, .int x5), (6, .int x6)]) (st' := [.int (-1 : Int32), .int x6]) (S1 := (SH ++ X)) (V1 := V) rfl ?_
    rcases ai_if h with ⟨hc, h⟩ | ⟨hc, h⟩
    · refine rn_brT rfl rfl rfl rfl hc ?_
      exact rn_sub [0, 1, 2, 3, 4, 5, 6] rfl rfl (t_M_tellRow_41 (X := X) hd F17 hF17 (d_M_tellRow_26 F17 n) (ih) x1 x2 x3 x4 x5 x6 V _ h)
    · refine rn_brF rfl rfl rfl rfl hc ?_
      refine rn_go 2 (pc' := 35) (l' := [(0, .ref 89), (1, .int x1), (2, .int x2), (3, .int x3), (4, .int x4), (5, .int x5), (6, .int x6)]) (st' := [.int x6, .int x1]) (S1 := (SH ++ X)) (V1 := V) rfl ?_
      obtain ⟨q5, hq5, h⟩ := ai_bd h
      refine rn_call rfl rfl rfl rfl rfl rfl (by omega) (t_M_has (by omega) hq5) ?_
      rcases ai_if h with ⟨hc, h⟩ | ⟨hc, h⟩
      · refine rn_brT rfl rfl rfl rfl hc ?_
        exact rn_sub [0, 1, 2, 3, 4, 5, 6] rfl rfl (t_M_tellRow_69 (X := X) hd F17 hF17 (d_M_tellRow_26 F17 n) (ih) x1 x2 x3 x4 x5 x6 V _ h)
      · refine rn_brF rfl rfl rfl rfl hc ?_
        exact rn_sub [0, 1, 2, 3, 4, 5, 6] rfl rfl (t_M_tellRow_41 (X := X) hd F17 hF17 (d_M_tellRow_26 F17 n) (ih) x1 x2 x3 x4 x5 x6 V _ h)
def d_M_tellRow_17  : Nat → Int32 → Int32 → Int32 → Int32 → Int32 → ai_V → Option ai_V
  | 0, _, _, _, _, _, _ => none
  | n + 1, x1, x2, x3, x4, x5, V => if x2 ≤ x5 then (some V) else (d_M_tellRow_26 (d_M_tellRow_17 n) ai_N x1 x2 x3 x4 x5 (-1 : Int32) V)
set_option maxRecDepth 20000 in
theorem t_M_tellRow_17 {X : ai_S} {e : Nat} (hd : 331 ≤ e)  : ∀ (n : Nat) (x1 : Int32) (x2 : Int32) (x3 : Int32) (x4 : Int32) (x5 : Int32) (V : ai_V) (r : ai_V), d_M_tellRow_17  n x1 x2 x3 x4 x5 V = some r → Rn e 207 17 [(0, .ref 89), (1, .int x1), (2, .int x2), (3, .int x3), (4, .int x4), (5, .int x5)] [] (SH ++ X) V none (SH ++ X) r := by
  intro n
  induction n with
  | zero =>
    intro x1 x2 x3 x4 x5 V r h
    cases h
  | succ n ih =>
    intro x1 x2 x3 x4 x5 V r h
    rw [d_M_tellRow_17] at h
    refine rn_go 2 (pc' := 20) (l' := [(0, .ref 89), (1, .int x1), (2, .int x2), (3, .int x3), (4, .int x4), (5, .int x5)]) (st' := [.int x2, .int x5]) (S1 := (SH ++ X)) (V1 := V) rfl ?_
    rcases ai_if h with ⟨hc, h⟩ | ⟨hc, h⟩
    · refine rn_brT rfl rfl rfl rfl hc ?_
      obtain rfl := Option.some.inj h
      exact rn_ret rfl rfl rfl
    · refine rn_brF rfl rfl rfl rfl hc ?_
      refine rn_go 2 (pc' := 26) (l' := [(6, .int (-1 : Int32)), (0, .ref 89), (1, .int x1), (2, .int x2), (3, .int x3), (4, .int x4), (5, .int x5)]) (st' := []) (S1 := (SH ++ X)) (V1 := V) rfl ?_
      exact rn_sub [1, 2, 3, 4, 5, 6, 0] rfl rfl (t_M_tellRow_26 (X := X) hd (d_M_tellRow_17 n) (ih) ai_N x1 x2 x3 x4 x5 (-1 : Int32) V _ h)
def d_M_tellRow (x1 : Int32) (x2 : Int32) (x3 : Int32) (V : ai_V) : Option ai_V :=
  d_M_tellRow_17 ai_N x1 x2 x3 (ga (si V 89 13 (0 : Int32)) 90 ((12 : Int32)).toNatClampNeg) (0 : Int32) (si V 89 13 (0 : Int32))
set_option maxRecDepth 20000 in
theorem t_M_tellRow {X : ai_S} {e : Nat} (hd : 331 ≤ e) {x1 : Int32} {x2 : Int32} {x3 : Int32} {V : ai_V} {r : ai_V} (h : d_M_tellRow x1 x2 x3 V = some r) : Rn e 207 0 (lv_args 0 [.ref 89, .int x1, .int x2, .int x3]) [] (SH ++ X) V none (SH ++ X) r := by
  rw [d_M_tellRow] at h
  refine rn_go 6 (pc' := 11) (l' := [(0, .ref 89), (1, .int x1), (2, .int x2), (3, .int x3)]) (st' := [.int (12 : Int32), .ref 90]) (S1 := (SH ++ X)) (V1 := (si V 89 13 (0 : Int32))) rfl ?_
  refine rg_iald (n := 14) rfl rfl (by decide) ?_
  refine rn_go 3 (pc' := 17) (l' := [(5, .int (0 : Int32)), (4, .int (ga (si V 89 13 (0 : Int32)) 90 ((12 : Int32)).toNatClampNeg)), (0, .ref 89), (1, .int x1), (2, .int x2), (3, .int x3)]) (st' := []) (S1 := (SH ++ X)) (V1 := (si V 89 13 (0 : Int32))) rfl ?_
  exact rn_sub [2, 3, 4, 5, 1, 0] rfl rfl (t_M_tellRow_17 (X := X) hd ai_N x1 x2 x3 (ga (si V 89 13 (0 : Int32)) 90 ((12 : Int32)).toNatClampNeg) (0 : Int32) (si V 89 13 (0 : Int32)) _ h)
-- RentByTheWheelModel.fewest(II)I (89, None, None)
def d_M_fewest (x1 : Int32) (x2 : Int32) (V : ai_V) : Option (Int32 × ai_V) :=
  (d_M_areThose x1 (si V 89 14 (0 : Int32))).bind fun q1 => (if q1 = 0 then (some ((-1 : Int32), (si V 89 14 (0 : Int32)))) else ((d_M_in x2 (1 : Int32) (12 : Int32) (si V 89 14 (0 : Int32))).bind fun q2 => (if ¬ q2 = 0 then ((d_M_layRows x1 x2 (0 : Int32) (si V 89 14 (0 : Int32))).bind fun q3 => (if ai_in (ga q3 90 ((12 : Int32)).toNatClampNeg) 13000 then (if ¬ (ga q3 104 ((ga q3 90 ((12 : Int32)).toNatClampNeg)).toNatClampNeg) = (1000000000 : Int32) then ((d_M_tellRow x1 x2 (0 : Int32) q3).bind fun q4 => (some (((ga q3 104 ((ga q3 90 ((12 : Int32)).toNatClampNeg)).toNatClampNeg) / (10000 : Int32)), q4))) else (some ((-2 : Int32), q3))) else none)) else (some ((-1 : Int32), (si V 89 14 (0 : Int32)))))))
set_option maxRecDepth 20000 in
theorem t_M_fewest {X : ai_S} {e : Nat} (hd : 332 ≤ e) {x1 : Int32} {x2 : Int32} {V : ai_V} {r : (Int32 × ai_V)} (h : d_M_fewest x1 x2 V = some r) : Rn e 208 0 (lv_args 0 [.ref 89, .int x1, .int x2]) [] (SH ++ X) V (some (.int r.1)) (SH ++ X) r.2 := by
  rw [d_M_fewest] at h
  refine rn_go 5 (pc' := 7) (l' := [(0, .ref 89), (1, .int x1), (2, .int x2)]) (st' := [.int x1, .ref 89]) (S1 := (SH ++ X)) (V1 := (si V 89 14 (0 : Int32))) rfl ?_
  obtain ⟨q1, hq1, h⟩ := ai_bd h
  refine rn_call rfl rfl rfl rfl rfl rfl (by omega) (t_M_areThose (by omega) hq1) ?_
  rcases ai_if h with ⟨hc, h⟩ | ⟨hc, h⟩
  · refine rn_brT rfl rfl rfl rfl hc ?_
    refine rn_go 1 (pc' := 24) (l' := [(0, .ref 89), (1, .int x1), (2, .int x2)]) (st' := [.int (-1 : Int32)]) (S1 := (SH ++ X)) (V1 := (si V 89 14 (0 : Int32))) rfl ?_
    obtain rfl := Option.some.inj h
    exact rn_ret rfl rfl rfl
  · refine rn_brF rfl rfl rfl rfl hc ?_
    refine rn_go 3 (pc' := 17) (l' := [(0, .ref 89), (1, .int x1), (2, .int x2)]) (st' := [.int (12 : Int32), .int (1 : Int32), .int x2]) (S1 := (SH ++ X)) (V1 := (si V 89 14 (0 : Int32))) rfl ?_
    obtain ⟨q2, hq2, h⟩ := ai_bd h
    refine rn_call rfl rfl rfl rfl rfl rfl (by omega) (t_M_in (by omega) hq2) ?_
    rcases ai_if h with ⟨hc, h⟩ | ⟨hc, h⟩
    · refine rn_brT rfl rfl rfl rfl hc ?_
      refine rn_go 4 (pc' := 29) (l' := [(0, .ref 89), (1, .int x1), (2, .int x2)]) (st' := [.int (0 : Int32), .int x2, .int x1, .ref 89]) (S1 := (SH ++ X)) (V1 := (si V 89 14 (0 : Int32))) rfl ?_
      obtain ⟨q3, hq3, h⟩ := ai_bd h
      refine rn_call rfl rfl rfl rfl rfl rfl (by omega) (t_M_layRows (by omega) hq3) ?_
      refine rn_go 5 (pc' := 42) (l' := [(0, .ref 89), (1, .int x1), (2, .int x2)]) (st' := [.int (12 : Int32), .ref 90, .ref 104]) (S1 := (SH ++ X)) (V1 := q3) rfl ?_
      refine rg_iald (n := 14) rfl rfl (by decide) ?_
      obtain ⟨hg, h⟩ := ai_gd h
      refine rg_iald (n := 13000) rfl rfl hg ?_
      refine rn_go 3 (pc' := 49) (l' := [(3, .int (ga q3 104 ((ga q3 90 ((12 : Int32)).toNatClampNeg)).toNatClampNeg)), (0, .ref 89), (1, .int x1), (2, .int x2)]) (st' := [.int (1000000000 : Int32), .int (ga q3 104 ((ga q3 90 ((12 : Int32)).toNatClampNeg)).toNatClampNeg)]) (S1 := (SH ++ X)) (V1 := q3) rfl ?_
      rcases ai_if h with ⟨hc, h⟩ | ⟨hc, h⟩
      · refine rn_brT rfl rfl rfl rfl hc ?_
        refine rn_go 4 (pc' := 59) (l' := [(3, .int (ga q3 104 ((ga q3 90 ((12 : Int32)).toNatClampNeg)).toNatClampNeg)), (0, .ref 89), (1, .int x1), (2, .int x2)]) (st' := [.int (0 : Int32), .int x2, .int x1, .ref 89]) (S1 := (SH ++ X)) (V1 := q3) rfl ?_
        obtain ⟨q4, hq4, h⟩ := ai_bd h
        refine rn_call rfl rfl rfl rfl rfl rfl (by omega) (t_M_tellRow (by omega) hq4) ?_
        refine rn_go 2 (pc' := 66) (l' := [(3, .int (ga q3 104 ((ga q3 90 ((12 : Int32)).toNatClampNeg)).toNatClampNeg)), (0, .ref 89), (1, .int x1), (2, .int x2)]) (st' := [.int (10000 : Int32), .int (ga q3 104 ((ga q3 90 ((12 : Int32)).toNatClampNeg)).toNatClampNeg)]) (S1 := (SH ++ X)) (V1 := q4) rfl ?_
        refine rg_idiv rfl (by decide) ?_
        obtain rfl := Option.some.inj h
        exact rn_ret rfl rfl rfl
      · refine rn_brF rfl rfl rfl rfl hc ?_
        refine rn_go 1 (pc' := 54) (l' := [(3, .int (ga q3 104 ((ga q3 90 ((12 : Int32)).toNatClampNeg)).toNatClampNeg)), (0, .ref 89), (1, .int x1), (2, .int x2)]) (st' := [.int (-2 : Int32)]) (S1 := (SH ++ X)) (V1 := q3) rfl ?_
        obtain rfl := Option.some.inj h
        exact rn_ret rfl rfl rfl
    · refine rn_brF rfl rfl rfl rfl hc ?_
      refine rn_go 1 (pc' := 24) (l' := [(0, .ref 89), (1, .int x1), (2, .int x2)]) (st' := [.int (-1 : Int32)]) (S1 := (SH ++ X)) (V1 := (si V 89 14 (0 : Int32))) rfl ?_
      obtain rfl := Option.some.inj h
      exact rn_ret rfl rfl rfl
-- RentByTheWheelModel.driest(II)I (89, None, None)
def d_M_driest (x1 : Int32) (x2 : Int32) (V : ai_V) : Option (Int32 × ai_V) :=
  (d_M_areThose x1 (si V 89 14 (0 : Int32))).bind fun q1 => (if q1 = 0 then (some ((-1 : Int32), (si V 89 14 (0 : Int32)))) else ((d_M_in x2 (1 : Int32) (12 : Int32) (si V 89 14 (0 : Int32))).bind fun q2 => (if ¬ q2 = 0 then ((d_M_layRows x1 x2 (1 : Int32) (si V 89 14 (0 : Int32))).bind fun q3 => (if ai_in (ga q3 90 ((12 : Int32)).toNatClampNeg) 13000 then ((d_M_tellRow x1 x2 (1 : Int32) q3).bind fun q4 => (some (((ga q3 104 ((ga q3 90 ((12 : Int32)).toNatClampNeg)).toNatClampNeg) / (100 : Int32)), q4))) else none)) else (some ((-1 : Int32), (si V 89 14 (0 : Int32)))))))
set_option maxRecDepth 20000 in
theorem t_M_driest {X : ai_S} {e : Nat} (hd : 332 ≤ e) {x1 : Int32} {x2 : Int32} {V : ai_V} {r : (Int32 × ai_V)} (h : d_M_driest x1 x2 V = some r) : Rn e 209 0 (lv_args 0 [.ref 89, .int x1, .int x2]) [] (SH ++ X) V (some (.int r.1)) (SH ++ X) r.2 := by
  rw [d_M_driest] at h
  refine rn_go 5 (pc' := 7) (l' := [(0, .ref 89), (1, .int x1), (2, .int x2)]) (st' := [.int x1, .ref 89]) (S1 := (SH ++ X)) (V1 := (si V 89 14 (0 : Int32))) rfl ?_
  obtain ⟨q1, hq1, h⟩ := ai_bd h
  refine rn_call rfl rfl rfl rfl rfl rfl (by omega) (t_M_areThose (by omega) hq1) ?_
  rcases ai_if h with ⟨hc, h⟩ | ⟨hc, h⟩
  · refine rn_brT rfl rfl rfl rfl hc ?_
    refine rn_go 1 (pc' := 24) (l' := [(0, .ref 89), (1, .int x1), (2, .int x2)]) (st' := [.int (-1 : Int32)]) (S1 := (SH ++ X)) (V1 := (si V 89 14 (0 : Int32))) rfl ?_
    obtain rfl := Option.some.inj h
    exact rn_ret rfl rfl rfl
  · refine rn_brF rfl rfl rfl rfl hc ?_
    refine rn_go 3 (pc' := 17) (l' := [(0, .ref 89), (1, .int x1), (2, .int x2)]) (st' := [.int (12 : Int32), .int (1 : Int32), .int x2]) (S1 := (SH ++ X)) (V1 := (si V 89 14 (0 : Int32))) rfl ?_
    obtain ⟨q2, hq2, h⟩ := ai_bd h
    refine rn_call rfl rfl rfl rfl rfl rfl (by omega) (t_M_in (by omega) hq2) ?_
    rcases ai_if h with ⟨hc, h⟩ | ⟨hc, h⟩
    · refine rn_brT rfl rfl rfl rfl hc ?_
      refine rn_go 4 (pc' := 29) (l' := [(0, .ref 89), (1, .int x1), (2, .int x2)]) (st' := [.int (1 : Int32), .int x2, .int x1, .ref 89]) (S1 := (SH ++ X)) (V1 := (si V 89 14 (0 : Int32))) rfl ?_
      obtain ⟨q3, hq3, h⟩ := ai_bd h
      refine rn_call rfl rfl rfl rfl rfl rfl (by omega) (t_M_layRows (by omega) hq3) ?_
      refine rn_go 5 (pc' := 42) (l' := [(0, .ref 89), (1, .int x1), (2, .int x2)]) (st' := [.int (12 : Int32), .ref 90, .ref 104]) (S1 := (SH ++ X)) (V1 := q3) rfl ?_
      refine rg_iald (n := 14) rfl rfl (by decide) ?_
      obtain ⟨hg, h⟩ := ai_gd h
      refine rg_iald (n := 13000) rfl rfl hg ?_
      refine rn_go 5 (pc' := 49) (l' := [(3, .int (ga q3 104 ((ga q3 90 ((12 : Int32)).toNatClampNeg)).toNatClampNeg)), (0, .ref 89), (1, .int x1), (2, .int x2)]) (st' := [.int (1 : Int32), .int x2, .int x1, .ref 89]) (S1 := (SH ++ X)) (V1 := q3) rfl ?_
      obtain ⟨q4, hq4, h⟩ := ai_bd h
      refine rn_call rfl rfl rfl rfl rfl rfl (by omega) (t_M_tellRow (by omega) hq4) ?_
      refine rn_go 2 (pc' := 55) (l' := [(3, .int (ga q3 104 ((ga q3 90 ((12 : Int32)).toNatClampNeg)).toNatClampNeg)), (0, .ref 89), (1, .int x1), (2, .int x2)]) (st' := [.int (100 : Int32), .int (ga q3 104 ((ga q3 90 ((12 : Int32)).toNatClampNeg)).toNatClampNeg)]) (S1 := (SH ++ X)) (V1 := q4) rfl ?_
      refine rg_idiv rfl (by decide) ?_
      obtain rfl := Option.some.inj h
      exact rn_ret rfl rfl rfl
    · refine rn_brF rfl rfl rfl rfl hc ?_
      refine rn_go 1 (pc' := 24) (l' := [(0, .ref 89), (1, .int x1), (2, .int x2)]) (st' := [.int (-1 : Int32)]) (S1 := (SH ++ X)) (V1 := (si V 89 14 (0 : Int32))) rfl ?_
      obtain rfl := Option.some.inj h
      exact rn_ret rfl rfl rfl
-- RentByTheWheelModel.treads(II)I (89, None, None)
def d_M_treads (x1 : Int32) (x2 : Int32) (V : ai_V) : Option Int32 :=
  if ai_in x1 14 then (if ai_in x1 6 then (if ai_in x1 6 then (if ai_in x1 6 then (if (ga V 92 (x1).toNatClampNeg) = 0 then none else (some ((((ai_max (0 : Int32) ((ga V 90 (x1).toNatClampNeg) + ((x2 * (gi V 89 9)) * ((ga V 91 (x1).toNatClampNeg) + (1 : Int32))))) + (ga V 92 (x1).toNatClampNeg)) - (1 : Int32)) / (ga V 92 (x1).toNatClampNeg)))) else none) else none) else none) else none
set_option maxRecDepth 20000 in
theorem t_M_treads {X : ai_S} {e : Nat} (hd : 0 ≤ e) {x1 : Int32} {x2 : Int32} {V : ai_V} {r : Int32} (h : d_M_treads x1 x2 V = some r) : Rn e 210 0 (lv_args 0 [.ref 89, .int x1, .int x2]) [] (SH ++ X) V (some (.int r)) (SH ++ X) V := by
  rw [d_M_treads] at h
  refine rn_go 4 (pc' := 6) (l' := [(0, .ref 89), (1, .int x1), (2, .int x2)]) (st' := [.int x1, .ref 90, .int (0 : Int32)]) (S1 := (SH ++ X)) (V1 := V) rfl ?_
  obtain ⟨hg, h⟩ := ai_gd h
  refine rg_iald (n := 14) rfl rfl hg ?_
  refine rn_go 7 (pc' := 18) (l' := [(0, .ref 89), (1, .int x1), (2, .int x2)]) (st' := [.int x1, .ref 91, .int (x2 * (gi V 89 9)), .int (ga V 90 (x1).toNatClampNeg), .int (0 : Int32)]) (S1 := (SH ++ X)) (V1 := V) rfl ?_
  obtain ⟨hg, h⟩ := ai_gd h
  refine rg_iald (n := 6) rfl rfl hg ?_
  refine rn_go 10 (pc' := 33) (l' := [(3, .int (ai_max (0 : Int32) ((ga V 90 (x1).toNatClampNeg) + ((x2 * (gi V 89 9)) * ((ga V 91 (x1).toNatClampNeg) + (1 : Int32)))))), (0, .ref 89), (1, .int x1), (2, .int x2)]) (st' := [.int x1, .ref 92, .int (ai_max (0 : Int32) ((ga V 90 (x1).toNatClampNeg) + ((x2 * (gi V 89 9)) * ((ga V 91 (x1).toNatClampNeg) + (1 : Int32)))))]) (S1 := (SH ++ X)) (V1 := V) rfl ?_
  obtain ⟨hg, h⟩ := ai_gd h
  refine rg_iald (n := 6) rfl rfl hg ?_
  refine rn_go 6 (pc' := 42) (l' := [(3, .int (ai_max (0 : Int32) ((ga V 90 (x1).toNatClampNeg) + ((x2 * (gi V 89 9)) * ((ga V 91 (x1).toNatClampNeg) + (1 : Int32)))))), (0, .ref 89), (1, .int x1), (2, .int x2)]) (st' := [.int x1, .ref 92, .int (((ai_max (0 : Int32) ((ga V 90 (x1).toNatClampNeg) + ((x2 * (gi V 89 9)) * ((ga V 91 (x1).toNatClampNeg) + (1 : Int32))))) + (ga V 92 (x1).toNatClampNeg)) - (1 : Int32))]) (S1 := (SH ++ X)) (V1 := V) rfl ?_
  obtain ⟨hg, h⟩ := ai_gd h
  refine rg_iald (n := 6) rfl rfl hg ?_
  obtain ⟨hg, h⟩ := ai_gn h
  refine rg_idiv rfl hg ?_
  obtain rfl := Option.some.inj h
  exact rn_ret rfl rfl rfl
-- RentByTheWheelModel.pays(I)I (89, None)
def d_M_pays_140 (F110 : Int32 → Int32 → Int32 → Int32 → ai_V → Option (Int32 × ai_V)) (x1 : Int32) (x2 : Int32) (x3 : Int32) (x5 : Int32) (V : ai_V) : Option (Int32 × ai_V) :=
  F110 x1 x2 x3 (x5 + (1 : Int32)) V
set_option maxRecDepth 20000 in
theorem t_M_pays_140 {X : ai_S} {e : Nat} (hd : 2 ≤ e) (F110 : Int32 → Int32 → Int32 → Int32 → ai_V → Option (Int32 × ai_V)) (hF110 : ∀ (x1 : Int32) (x2 : Int32) (x3 : Int32) (x5 : Int32) (V : ai_V) (r : (Int32 × ai_V)), F110 x1 x2 x3 x5 V = some r → Rn e 211 110 [(0, .ref 89), (1, .int x1), (2, .int x2), (3, .int x3), (5, .int x5)] [] (SH ++ X) V (some (.int r.1)) (SH ++ X) r.2) (x1 : Int32) (x2 : Int32) (x3 : Int32) (x5 : Int32) (V : ai_V) (r : (Int32 × ai_V)) (h : d_M_pays_140 F110 x1 x2 x3 x5 V = some r) : Rn e 211 140 [(0, .ref 89), (1, .int x1), (2, .int x2), (3, .int x3), (5, .int x5)] [] (SH ++ X) V (some (.int r.1)) (SH ++ X) r.2 := by
  rw [d_M_pays_140] at h
  refine rn_go 2 (pc' := 110) (l' := [(5, .int (x5 + (1 : Int32))), (0, .ref 89), (1, .int x1), (2, .int x2), (3, .int x3)]) (st' := []) (S1 := (SH ++ X)) (V1 := V) rfl ?_
  exact rn_sub [1, 2, 3, 4, 0] rfl rfl (hF110 x1 x2 x3 (x5 + (1 : Int32)) V _ h)
def d_M_pays_110  : Nat → Int32 → Int32 → Int32 → Int32 → ai_V → Option (Int32 × ai_V)
  | 0, _, _, _, _, _ => none
  | n + 1, x1, x2, x3, x5, V => if (gi V 89 1) ≤ x5 then (some (x2, V)) else ((d_M_has x1 x5 V).bind fun q1 => (if q1 = 0 then (d_M_pays_140 (d_M_pays_110 n) x1 x2 x3 x5 V) else ((d_M_treads x5 x3 V).bind fun q2 => ((d_M_tell (q2).toInt64 V).bind fun q3 => (d_M_pays_140 (d_M_pays_110 n) x1 x2 x3 x5 q3)))))
set_option maxRecDepth 20000 in
theorem t_M_pays_110 {X : ai_S} {e : Nat} (hd : 2 ≤ e)  : ∀ (n : Nat) (x1 : Int32) (x2 : Int32) (x3 : Int32) (x5 : Int32) (V : ai_V) (r : (Int32 × ai_V)), d_M_pays_110  n x1 x2 x3 x5 V = some r → Rn e 211 110 [(0, .ref 89), (1, .int x1), (2, .int x2), (3, .int x3), (5, .int x5)] [] (SH ++ X) V (some (.int r.1)) (SH ++ X) r.2 := by
  intro n
  induction n with
  | zero =>
    intro x1 x2 x3 x5 V r h
    cases h
  | succ n ih =>
    intro x1 x2 x3 x5 V r h
    rw [d_M_pays_110] at h
    refine rn_go 3 (pc' := 116) (l' := [(0, .ref 89), (1, .int x1), (2, .int x2), (3, .int x3), (5, .int x5)]) (st' := [.int (gi V 89 1), .int x5]) (S1 := (SH ++ X)) (V1 := V) rfl ?_
    rcases ai_if h with ⟨hc, h⟩ | ⟨hc, h⟩
    · refine rn_brT rfl rfl rfl rfl hc ?_
      refine rn_go 1 (pc' := 147) (l' := [(0, .ref 89), (1, .int x1), (2, .int x2), (3, .int x3), (5, .int x5)]) (st' := [.int x2]) (S1 := (SH ++ X)) (V1 := V) rfl ?_
      obtain rfl := Option.some.inj h
      exact rn_ret rfl rfl rfl
    · refine rn_brF rfl rfl rfl rfl hc ?_
      refine rn_go 2 (pc' := 122) (l' := [(0, .ref 89), (1, .int x1), (2, .int x2), (3, .int x3), (5, .int x5)]) (st' := [.int x5, .int x1]) (S1 := (SH ++ X)) (V1 := V) rfl ?_
      obtain ⟨q1, hq1, h⟩ := ai_bd h
      refine rn_call rfl rfl rfl rfl rfl rfl (by omega) (t_M_has (by omega) hq1) ?_
      rcases ai_if h with ⟨hc, h⟩ | ⟨hc, h⟩
      · refine rn_brT rfl rfl rfl rfl hc ?_
        exact rn_sub [0, 1, 2, 3, 4] rfl rfl (t_M_pays_140 (X := X) hd (d_M_pays_110 n) (ih) x1 x2 x3 x5 V _ h)
      · refine rn_brF rfl rfl rfl rfl hc ?_
        refine rn_go 4 (pc' := 133) (l' := [(0, .ref 89), (1, .int x1), (2, .int x2), (3, .int x3), (5, .int x5)]) (st' := [.int x3, .int x5, .ref 89, .ref 89]) (S1 := (SH ++ X)) (V1 := V) rfl ?_
        obtain ⟨q2, hq2, h⟩ := ai_bd h
        refine rn_call rfl rfl rfl rfl rfl rfl (by omega) (t_M_treads (by omega) hq2) ?_
        refine rn_go 1 (pc' := 137) (l' := [(0, .ref 89), (1, .int x1), (2, .int x2), (3, .int x3), (5, .int x5)]) (st' := [.long (q2).toInt64, .ref 89]) (S1 := (SH ++ X)) (V1 := V) rfl ?_
        obtain ⟨q3, hq3, h⟩ := ai_bd h
        refine rn_call rfl rfl rfl rfl rfl rfl (by omega) (t_M_tell (by omega) hq3) ?_
        exact rn_sub [0, 1, 2, 3, 4] rfl rfl (t_M_pays_140 (X := X) hd (d_M_pays_110 n) (ih) x1 x2 x3 x5 q3 _ h)
def d_M_pays_84 (F17 : Int32 → Int32 → ai_V → Option (Int32 × ai_V)) (F53 : Int32 → Int32 → Int32 → Int32 → Int32 → ai_V → Option (Int32 × ai_V)) (x1 : Int32) (x2 : Int32) (x3 : Int32) (x5 : Int32) (s0 : Int32) (s1 : Int32) (V : ai_V) : Option (Int32 × ai_V) :=
  F53 x1 x2 x3 (s1 + s0) (x5 + (1 : Int32)) V
set_option maxRecDepth 20000 in
theorem t_M_pays_84 {X : ai_S} {e : Nat} (hd : 2 ≤ e) (F17 : Int32 → Int32 → ai_V → Option (Int32 × ai_V)) (hF17 : ∀ (x1 : Int32) (x2 : Int32) (V : ai_V) (r : (Int32 × ai_V)), F17 x1 x2 V = some r → Rn e 211 17 [(0, .ref 89), (1, .int x1), (2, .int x2)] [] (SH ++ X) V (some (.int r.1)) (SH ++ X) r.2) (F53 : Int32 → Int32 → Int32 → Int32 → Int32 → ai_V → Option (Int32 × ai_V)) (hF53 : ∀ (x1 : Int32) (x2 : Int32) (x3 : Int32) (x4 : Int32) (x5 : Int32) (V : ai_V) (r : (Int32 × ai_V)), F53 x1 x2 x3 x4 x5 V = some r → Rn e 211 53 [(0, .ref 89), (1, .int x1), (2, .int x2), (3, .int x3), (4, .int x4), (5, .int x5)] [] (SH ++ X) V (some (.int r.1)) (SH ++ X) r.2) (x1 : Int32) (x2 : Int32) (x3 : Int32) (x5 : Int32) (s0 : Int32) (s1 : Int32) (V : ai_V) (r : (Int32 × ai_V)) (h : d_M_pays_84 F17 F53 x1 x2 x3 x5 s0 s1 V = some r) : Rn e 211 84 [(0, .ref 89), (1, .int x1), (2, .int x2), (3, .int x3), (5, .int x5)] [.int s0, .int s1] (SH ++ X) V (some (.int r.1)) (SH ++ X) r.2 := by
  rw [d_M_pays_84] at h
  refine rn_go 4 (pc' := 53) (l' := [(5, .int (x5 + (1 : Int32))), (4, .int (s1 + s0)), (0, .ref 89), (1, .int x1), (2, .int x2), (3, .int x3)]) (st' := []) (S1 := (SH ++ X)) (V1 := V) rfl ?_
  exact rn_sub [2, 3, 4, 5, 1, 0] rfl rfl (hF53 x1 x2 x3 (s1 + s0) (x5 + (1 : Int32)) V _ h)
def d_M_pays_53 (F17 : Int32 → Int32 → ai_V → Option (Int32 × ai_V)) : Nat → Int32 → Int32 → Int32 → Int32 → Int32 → ai_V → Option (Int32 × ai_V)
  | 0, _, _, _, _, _, _ => none
  | n + 1, x1, x2, x3, x4, x5, V => if (gi V 89 1) ≤ x5 then (if x4 ≤ x2 then (d_M_pays_110 ai_N x1 x2 x3 (0 : Int32) (si V 89 13 (0 : Int32))) else (F17 x1 (x2 + (1 : Int32)) V)) else ((d_M_has x1 x5 V).bind fun q4 => (if q4 = 0 then (d_M_pays_84 F17 (d_M_pays_53 F17 n) x1 x2 x3 x5 (0 : Int32) x4 V) else ((d_M_treads x5 x3 V).bind fun q5 => (d_M_pays_84 F17 (d_M_pays_53 F17 n) x1 x2 x3 x5 q5 x4 V))))
set_option maxRecDepth 20000 in
theorem t_M_pays_53 {X : ai_S} {e : Nat} (hd : 2 ≤ e) (F17 : Int32 → Int32 → ai_V → Option (Int32 × ai_V)) (hF17 : ∀ (x1 : Int32) (x2 : Int32) (V : ai_V) (r : (Int32 × ai_V)), F17 x1 x2 V = some r → Rn e 211 17 [(0, .ref 89), (1, .int x1), (2, .int x2)] [] (SH ++ X) V (some (.int r.1)) (SH ++ X) r.2) : ∀ (n : Nat) (x1 : Int32) (x2 : Int32) (x3 : Int32) (x4 : Int32) (x5 : Int32) (V : ai_V) (r : (Int32 × ai_V)), d_M_pays_53 F17 n x1 x2 x3 x4 x5 V = some r → Rn e 211 53 [(0, .ref 89), (1, .int x1), (2, .int x2), (3, .int x3), (4, .int x4), (5, .int x5)] [] (SH ++ X) V (some (.int r.1)) (SH ++ X) r.2 := by
  intro n
  induction n with
  | zero =>
    intro x1 x2 x3 x4 x5 V r h
    cases h
  | succ n ih =>
    intro x1 x2 x3 x4 x5 V r h
    rw [d_M_pays_53] at h
    refine rn_go 3 (pc' := 59) (l' := [(0, .ref 89), (1, .int x1), (2, .int x2), (3, .int x3), (4, .int x4), (5, .int x5)]) (st' := [.int (gi V 89 1), .int x5]) (S1 := (SH ++ X)) (V1 := V) rfl ?_
    rcases ai_if h with ⟨hc, h⟩ | ⟨hc, h⟩
    · refine rn_brT rfl rfl rfl rfl hc ?_
      refine rn_go 2 (pc' := 96) (l' := [(0, .ref 89), (1, .int x1), (2, .int x2), (3, .int x3), (4, .int x4), (5, .int x5)]) (st' := [.int x2, .int x4]) (S1 := (SH ++ X)) (V1 := V) rfl ?_
      rcases ai_if h with ⟨hc, h⟩ | ⟨hc, h⟩
      · refine rn_brT rfl rfl rfl rfl hc ?_
        refine rn_go 5 (pc' := 110) (l' := [(5, .int (0 : Int32)), (0, .ref 89), (1, .int x1), (2, .int x2), (3, .int x3), (4, .int x4)]) (st' := []) (S1 := (SH ++ X)) (V1 := (si V 89 13 (0 : Int32))) rfl ?_
        exact rn_sub [1, 2, 3, 4, 0] rfl rfl (t_M_pays_110 (X := X) hd ai_N x1 x2 x3 (0 : Int32) (si V 89 13 (0 : Int32)) _ h)
      · refine rn_brF rfl rfl rfl rfl hc ?_
        refine rn_go 3 (pc' := 17) (l' := [(2, .int (x2 + (1 : Int32))), (0, .ref 89), (1, .int x1), (3, .int x3), (4, .int x4), (5, .int x5)]) (st' := []) (S1 := (SH ++ X)) (V1 := V) rfl ?_
        exact rn_sub [1, 2, 0] rfl rfl (hF17 x1 (x2 + (1 : Int32)) V _ h)
    · refine rn_brF rfl rfl rfl rfl hc ?_
      refine rn_go 3 (pc' := 67) (l' := [(0, .ref 89), (1, .int x1), (2, .int x2), (3, .int x3), (4, .int x4), (5, .int x5)]) (st' := [.int x5, .int x1, .int x4]) (S1 := (SH ++ X)) (V1 := V) rfl ?_
      obtain ⟨q4, hq4, h⟩ := ai_bd h
      refine rn_call rfl rfl rfl rfl rfl rfl (by omega) (t_M_has (by omega) hq4) ?_
      rcases ai_if h with ⟨hc, h⟩ | ⟨hc, h⟩
      · refine rn_brT rfl rfl rfl rfl hc ?_
        refine rn_go 1 (pc' := 84) (l' := [(0, .ref 89), (1, .int x1), (2, .int x2), (3, .int x3), (4, .int x4), (5, .int x5)]) (st' := [.int (0 : Int32), .int x4]) (S1 := (SH ++ X)) (V1 := V) rfl ?_
        exact rn_sub [0, 1, 2, 3, 5] rfl rfl (t_M_pays_84 (X := X) hd F17 hF17 (d_M_pays_53 F17 n) (ih) x1 x2 x3 x5 (0 : Int32) x4 V _ h)
      · refine rn_brF rfl rfl rfl rfl hc ?_
        refine rn_go 3 (pc' := 77) (l' := [(0, .ref 89), (1, .int x1), (2, .int x2), (3, .int x3), (4, .int x4), (5, .int x5)]) (st' := [.int x3, .int x5, .ref 89, .int x4]) (S1 := (SH ++ X)) (V1 := V) rfl ?_
        obtain ⟨q5, hq5, h⟩ := ai_bd h
        refine rn_call rfl rfl rfl rfl rfl rfl (by omega) (t_M_treads (by omega) hq5) ?_
        refine rn_go 1 (pc' := 84) (l' := [(0, .ref 89), (1, .int x1), (2, .int x2), (3, .int x3), (4, .int x4), (5, .int x5)]) (st' := [.int q5, .int x4]) (S1 := (SH ++ X)) (V1 := V) rfl ?_
        exact rn_sub [0, 1, 2, 3, 5] rfl rfl (t_M_pays_84 (X := X) hd F17 hF17 (d_M_pays_53 F17 n) (ih) x1 x2 x3 x5 q5 x4 V _ h)
def d_M_pays_17  : Nat → Int32 → Int32 → ai_V → Option (Int32 × ai_V)
  | 0, _, _, _ => none
  | n + 1, x1, x2, V => if (40 : Int32) < x2 then (some ((-2 : Int32), V)) else (d_M_pays_53 (d_M_pays_17 n) ai_N x1 x2 ((((ga V 90 ((13 : Int32)).toNatClampNeg) + x2) / (12 : Int32)) - ((ga V 90 ((13 : Int32)).toNatClampNeg) / (12 : Int32))) (0 : Int32) (0 : Int32) V)
set_option maxRecDepth 20000 in
theorem t_M_pays_17 {X : ai_S} {e : Nat} (hd : 2 ≤ e)  : ∀ (n : Nat) (x1 : Int32) (x2 : Int32) (V : ai_V) (r : (Int32 × ai_V)), d_M_pays_17  n x1 x2 V = some r → Rn e 211 17 [(0, .ref 89), (1, .int x1), (2, .int x2)] [] (SH ++ X) V (some (.int r.1)) (SH ++ X) r.2 := by
  intro n
  induction n with
  | zero =>
    intro x1 x2 V r h
    cases h
  | succ n ih =>
    intro x1 x2 V r h
    rw [d_M_pays_17] at h
    refine rn_go 2 (pc' := 20) (l' := [(0, .ref 89), (1, .int x1), (2, .int x2)]) (st' := [.int (40 : Int32), .int x2]) (S1 := (SH ++ X)) (V1 := V) rfl ?_
    rcases ai_if h with ⟨hc, h⟩ | ⟨hc, h⟩
    · refine rn_brT rfl rfl rfl rfl hc ?_
      refine rn_go 1 (pc' := 156) (l' := [(0, .ref 89), (1, .int x1), (2, .int x2)]) (st' := [.int (-2 : Int32)]) (S1 := (SH ++ X)) (V1 := V) rfl ?_
      obtain rfl := Option.some.inj h
      exact rn_ret rfl rfl rfl
    · refine rn_brF rfl rfl rfl rfl hc ?_
      refine rn_go 3 (pc' := 29) (l' := [(0, .ref 89), (1, .int x1), (2, .int x2)]) (st' := [.int (13 : Int32), .ref 90]) (S1 := (SH ++ X)) (V1 := V) rfl ?_
      refine rg_iald (n := 14) rfl rfl (by decide) ?_
      refine rn_go 3 (pc' := 34) (l' := [(0, .ref 89), (1, .int x1), (2, .int x2)]) (st' := [.int (12 : Int32), .int ((ga V 90 ((13 : Int32)).toNatClampNeg) + x2)]) (S1 := (SH ++ X)) (V1 := V) rfl ?_
      refine rg_idiv rfl (by decide) ?_
      refine rn_go 3 (pc' := 41) (l' := [(0, .ref 89), (1, .int x1), (2, .int x2)]) (st' := [.int (13 : Int32), .ref 90, .int (((ga V 90 ((13 : Int32)).toNatClampNeg) + x2) / (12 : Int32))]) (S1 := (SH ++ X)) (V1 := V) rfl ?_
      refine rg_iald (n := 14) rfl rfl (by decide) ?_
      refine rn_go 1 (pc' := 44) (l' := [(0, .ref 89), (1, .int x1), (2, .int x2)]) (st' := [.int (12 : Int32), .int (ga V 90 ((13 : Int32)).toNatClampNeg), .int (((ga V 90 ((13 : Int32)).toNatClampNeg) + x2) / (12 : Int32))]) (S1 := (SH ++ X)) (V1 := V) rfl ?_
      refine rg_idiv rfl (by decide) ?_
      refine rn_go 6 (pc' := 53) (l' := [(5, .int (0 : Int32)), (4, .int (0 : Int32)), (3, .int ((((ga V 90 ((13 : Int32)).toNatClampNeg) + x2) / (12 : Int32)) - ((ga V 90 ((13 : Int32)).toNatClampNeg) / (12 : Int32)))), (0, .ref 89), (1, .int x1), (2, .int x2)]) (st' := []) (S1 := (SH ++ X)) (V1 := V) rfl ?_
      exact rn_sub [3, 4, 5, 2, 1, 0] rfl rfl (t_M_pays_53 (X := X) hd (d_M_pays_17 n) (ih) ai_N x1 x2 ((((ga V 90 ((13 : Int32)).toNatClampNeg) + x2) / (12 : Int32)) - ((ga V 90 ((13 : Int32)).toNatClampNeg) / (12 : Int32))) (0 : Int32) (0 : Int32) V _ h)
def d_M_pays (x1 : Int32) (V : ai_V) : Option (Int32 × ai_V) :=
  (d_M_areThose x1 (si V 89 14 (0 : Int32))).bind fun q6 => (if ¬ q6 = 0 then (d_M_pays_17 ai_N x1 (0 : Int32) (si V 89 14 (0 : Int32))) else (some ((-1 : Int32), (si V 89 14 (0 : Int32)))))
set_option maxRecDepth 20000 in
theorem t_M_pays {X : ai_S} {e : Nat} (hd : 2 ≤ e) {x1 : Int32} {V : ai_V} {r : (Int32 × ai_V)} (h : d_M_pays x1 V = some r) : Rn e 211 0 (lv_args 0 [.ref 89, .int x1]) [] (SH ++ X) V (some (.int r.1)) (SH ++ X) r.2 := by
  rw [d_M_pays] at h
  refine rn_go 5 (pc' := 7) (l' := [(0, .ref 89), (1, .int x1)]) (st' := [.int x1, .ref 89]) (S1 := (SH ++ X)) (V1 := (si V 89 14 (0 : Int32))) rfl ?_
  obtain ⟨q6, hq6, h⟩ := ai_bd h
  refine rn_call rfl rfl rfl rfl rfl rfl (by omega) (t_M_areThose (by omega) hq6) ?_
  rcases ai_if h with ⟨hc, h⟩ | ⟨hc, h⟩
  · refine rn_brT rfl rfl rfl rfl hc ?_
    refine rn_go 2 (pc' := 17) (l' := [(2, .int (0 : Int32)), (0, .ref 89), (1, .int x1)]) (st' := []) (S1 := (SH ++ X)) (V1 := (si V 89 14 (0 : Int32))) rfl ?_
    exact rn_sub [1, 2, 0] rfl rfl (t_M_pays_17 (X := X) hd ai_N x1 (0 : Int32) (si V 89 14 (0 : Int32)) _ h)
  · refine rn_brF rfl rfl rfl rfl hc ?_
    refine rn_go 1 (pc' := 14) (l' := [(0, .ref 89), (1, .int x1)]) (st' := [.int (-1 : Int32)]) (S1 := (SH ++ X)) (V1 := (si V 89 14 (0 : Int32))) rfl ?_
    obtain rfl := Option.some.inj h
    exact rn_ret rfl rfl rfl
