/-! ===== printed by wip/gen/gen.py: methods as functions, and that the machine runs so ===== -/
-- RentByTheWheel.undo()I (0,)
def d_X_undo  (V : ai_V) : Option (Int32 × ai_V) :=
  (d_Past_takeBack  V).bind fun q1 => (if q1.1 = 0 then (some ((-1 : Int32), q1.2)) else (some ((gi q1.2 24 1), q1.2)))
set_option maxRecDepth 20000 in
theorem t_X_undo {X : ai_S} {e : Nat} (hd : 2 ≤ e)  {V : ai_V} {r : (Int32 × ai_V)} (h : d_X_undo  V = some r) : Rn e 113 0 (lv_args 0 [.ref 0]) [] (SH ++ X) V (some (.int r.1)) (SH ++ X) r.2 := by
  rw [d_X_undo] at h
  refine rn_go 4 (pc' := 8) (l' := [(0, .ref 0)]) (st' := [.ref 16, .ref 24]) (S1 := (SH ++ X)) (V1 := V) rfl ?_
  obtain ⟨q1, hq1, h⟩ := ai_bd h
  refine rn_call rfl rfl rfl rfl rfl rfl (by omega) (t_Past_takeBack (by omega) hq1) ?_
  rcases ai_if h with ⟨hc, h⟩ | ⟨hc, h⟩
  · refine rn_brT rfl rfl rfl rfl hc ?_
    refine rn_go 1 (pc' := 25) (l' := [(0, .ref 0)]) (st' := [.int (-1 : Int32)]) (S1 := (SH ++ X)) (V1 := q1.2) rfl ?_
    obtain rfl := Option.some.inj h
    exact rn_ret rfl rfl rfl
  · refine rn_brF rfl rfl rfl rfl hc ?_
    refine rn_go 4 (pc' := 25) (l' := [(0, .ref 0)]) (st' := [.int (gi q1.2 24 1)]) (S1 := (SH ++ X)) (V1 := q1.2) rfl ?_
    obtain rfl := Option.some.inj h
    exact rn_ret rfl rfl rfl
-- RentByTheWheel$House.quotientUp(JJ)J (None, None)
def d_House_quotientUp_12   (V : ai_V) : Option Int64 :=
  some (Int64.ofNat 0)
set_option maxRecDepth 20000 in
theorem t_House_quotientUp_12 {X : ai_S} {e : Nat} (hd : 0 ≤ e)   (V : ai_V) (r : Int64) (h : d_House_quotientUp_12   V = some r) : Rn e 25 12 [] [] (SH ++ X) V (some (.long r)) (SH ++ X) V := by
  rw [d_House_quotientUp_12] at h
  refine rn_go 2 (pc' := 23) (l' := []) (st' := [.long (Int64.ofNat 0)]) (S1 := (SH ++ X)) (V1 := V) rfl ?_
  obtain rfl := Option.some.inj h
  exact rn_ret rfl rfl rfl
def d_House_quotientUp (x0 : Int64) (x2 : Int64) (V : ai_V) : Option Int64 :=
  if (lg_cmp x0 (Int64.ofNat 0)) ≤ 0 then (d_House_quotientUp_12 V) else (if 0 < (lg_cmp x2 (Int64.ofNat 0)) then (if x2 = 0 then none else (some (((x0 + x2) - (Int64.ofNat 1)) / x2))) else (d_House_quotientUp_12 V))
set_option maxRecDepth 20000 in
theorem t_House_quotientUp {X : ai_S} {e : Nat} (hd : 0 ≤ e) {x0 : Int64} {x2 : Int64} {V : ai_V} {r : Int64} (h : d_House_quotientUp x0 x2 V = some r) : Rn e 25 0 (lv_args 0 [.long x0, .long x2]) [] (SH ++ X) V (some (.long r)) (SH ++ X) V := by
  rw [d_House_quotientUp] at h
  refine rn_go 3 (pc' := 3) (l' := [(0, .long x0), (2, .long x2)]) (st' := [.int (lg_cmp x0 (Int64.ofNat 0))]) (S1 := (SH ++ X)) (V1 := V) rfl ?_
  rcases ai_if h with ⟨hc, h⟩ | ⟨hc, h⟩
  · refine rn_brT rfl rfl rfl rfl hc ?_
    exact rn_sub [] rfl rfl (t_House_quotientUp_12 (X := X) hd V _ h)
  · refine rn_brF rfl rfl rfl rfl hc ?_
    refine rn_go 3 (pc' := 9) (l' := [(0, .long x0), (2, .long x2)]) (st' := [.int (lg_cmp x2 (Int64.ofNat 0))]) (S1 := (SH ++ X)) (V1 := V) rfl ?_
    rcases ai_if h with ⟨hc, h⟩ | ⟨hc, h⟩
    · refine rn_brT rfl rfl rfl rfl hc ?_
      refine rn_go 6 (pc' := 22) (l' := [(0, .long x0), (2, .long x2)]) (st' := [.long x2, .long ((x0 + x2) - (Int64.ofNat 1))]) (S1 := (SH ++ X)) (V1 := V) rfl ?_
      obtain ⟨hg, h⟩ := ai_gn h
      refine rg_ldiv rfl hg ?_
      obtain rfl := Option.some.inj h
      exact rn_ret rfl rfl rfl
    · refine rn_brF rfl rfl rfl rfl hc ?_
      exact rn_sub [] rfl rfl (t_House_quotientUp_12 (X := X) hd V _ h)
-- RentByTheWheel$House.treadsFor(II)I (3, None, None)
def d_House_treadsFor (x1 : Int32) (x2 : Int32) (V : ai_V) : Option Int32 :=
  if ai_in x1 6 then ((d_House_quotientUp (x2).toInt64 (((ga V 5 (x1).toNatClampNeg)).toInt64) V).bind fun q1 => (some (q1).toInt32)) else none
set_option maxRecDepth 20000 in
theorem t_House_treadsFor {X : ai_S} {e : Nat} (hd : 1 ≤ e) {x1 : Int32} {x2 : Int32} {V : ai_V} {r : Int32} (h : d_House_treadsFor x1 x2 V = some r) : Rn e 26 0 (lv_args 0 [.ref 3, .int x1, .int x2]) [] (SH ++ X) V (some (.int r)) (SH ++ X) V := by
  rw [d_House_treadsFor] at h
  refine rn_go 5 (pc' := 7) (l' := [(0, .ref 3), (1, .int x1), (2, .int x2)]) (st' := [.int x1, .ref 5, .long (x2).toInt64]) (S1 := (SH ++ X)) (V1 := V) rfl ?_
  obtain ⟨hg, h⟩ := ai_gd h
  refine rg_iald (n := 6) rfl rfl hg ?_
  refine rn_go 1 (pc' := 9) (l' := [(0, .ref 3), (1, .int x1), (2, .int x2)]) (st' := [.long ((ga V 5 (x1).toNatClampNeg)).toInt64, .long (x2).toInt64]) (S1 := (SH ++ X)) (V1 := V) rfl ?_
  obtain ⟨q1, hq1, h⟩ := ai_bd h
  refine rn_call rfl rfl rfl rfl rfl rfl (by omega) (t_House_quotientUp (by omega) hq1) ?_
  refine rn_go 1 (pc' := 13) (l' := [(0, .ref 3), (1, .int x1), (2, .int x2)]) (st' := [.int (q1).toInt32]) (S1 := (SH ++ X)) (V1 := V) rfl ?_
  obtain rfl := Option.some.inj h
  exact rn_ret rfl rfl rfl
-- RentByTheWheel.treadsToPay(II)I (0, None, None)
def d_X_treadsToPay (x1 : Int32) (x2 : Int32) (V : ai_V) : Option Int32 :=
  if ai_in x1 6 then ((d_House_chargeOf x1 (gi V 3 1) V).bind fun q1 => ((d_House_treadsFor x1 ((ga V 17 (x1).toNatClampNeg) + (((((gi V 16 0) + x2) / (12 : Int32)) - ((gi V 16 0) / (12 : Int32))) * q1)) V).bind fun q2 => (some q2))) else none
set_option maxRecDepth 20000 in
theorem t_X_treadsToPay {X : ai_S} {e : Nat} (hd : 2 ≤ e) {x1 : Int32} {x2 : Int32} {V : ai_V} {r : Int32} (h : d_X_treadsToPay x1 x2 V = some r) : Rn e 116 0 (lv_args 0 [.ref 0, .int x1, .int x2]) [] (SH ++ X) V (some (.int r)) (SH ++ X) V := by
  rw [d_X_treadsToPay] at h
  refine rn_go 6 (pc' := 11) (l' := [(0, .ref 0), (1, .int x1), (2, .int x2)]) (st' := [.int (12 : Int32), .int ((gi V 16 0) + x2)]) (S1 := (SH ++ X)) (V1 := V) rfl ?_
  refine rg_idiv rfl (by decide) ?_
  refine rn_go 4 (pc' := 21) (l' := [(0, .ref 0), (1, .int x1), (2, .int x2)]) (st' := [.int (12 : Int32), .int (gi V 16 0), .int (((gi V 16 0) + x2) / (12 : Int32))]) (S1 := (SH ++ X)) (V1 := V) rfl ?_
  refine rg_idiv rfl (by decide) ?_
  refine rn_go 6 (pc' := 32) (l' := [(3, .int ((((gi V 16 0) + x2) / (12 : Int32)) - ((gi V 16 0) / (12 : Int32)))), (0, .ref 0), (1, .int x1), (2, .int x2)]) (st' := [.int x1, .ref 17]) (S1 := (SH ++ X)) (V1 := V) rfl ?_
  obtain ⟨hg, h⟩ := ai_gd h
  refine rg_iald (n := 6) rfl rfl hg ?_
  refine rn_go 7 (pc' := 46) (l' := [(3, .int ((((gi V 16 0) + x2) / (12 : Int32)) - ((gi V 16 0) / (12 : Int32)))), (0, .ref 0), (1, .int x1), (2, .int x2)]) (st' := [.int (gi V 3 1), .int x1, .ref 3, .int ((((gi V 16 0) + x2) / (12 : Int32)) - ((gi V 16 0) / (12 : Int32))), .int (ga V 17 (x1).toNatClampNeg)]) (S1 := (SH ++ X)) (V1 := V) rfl ?_
  obtain ⟨q1, hq1, h⟩ := ai_bd h
  refine rn_call rfl rfl rfl rfl rfl rfl (by omega) (t_House_chargeOf (by omega) hq1) ?_
  refine rn_go 7 (pc' := 60) (l' := [(4, .int ((ga V 17 (x1).toNatClampNeg) + (((((gi V 16 0) + x2) / (12 : Int32)) - ((gi V 16 0) / (12 : Int32))) * q1))), (3, .int ((((gi V 16 0) + x2) / (12 : Int32)) - ((gi V 16 0) / (12 : Int32)))), (0, .ref 0), (1, .int x1), (2, .int x2)]) (st' := [.int ((ga V 17 (x1).toNatClampNeg) + (((((gi V 16 0) + x2) / (12 : Int32)) - ((gi V 16 0) / (12 : Int32))) * q1)), .int x1, .ref 3]) (S1 := (SH ++ X)) (V1 := V) rfl ?_
  obtain ⟨q2, hq2, h⟩ := ai_bd h
  refine rn_call rfl rfl rfl rfl rfl rfl (by omega) (t_House_treadsFor (by omega) hq2) ?_
  obtain rfl := Option.some.inj h
  exact rn_ret rfl rfl rfl
-- RentByTheWheel.tellPayers(II)V (0, None, None)
def d_X_tellPayers_43 (F9 : Int32 → Int32 → Int32 → ai_V → Option ai_V) (x1 : Int32) (x2 : Int32) (x3 : Int32) (V : ai_V) : Option ai_V :=
  F9 x1 x2 (x3 + (1 : Int32)) V
set_option maxRecDepth 20000 in
theorem t_X_tellPayers_43 {X : ai_S} {e : Nat} (hd : 3 ≤ e) (F9 : Int32 → Int32 → Int32 → ai_V → Option ai_V) (hF9 : ∀ (x1 : Int32) (x2 : Int32) (x3 : Int32) (V : ai_V) (r : ai_V), F9 x1 x2 x3 V = some r → Rn e 117 9 [(0, .ref 0), (1, .int x1), (2, .int x2), (3, .int x3)] [] (SH ++ X) V none (SH ++ X) r) (x1 : Int32) (x2 : Int32) (x3 : Int32) (V : ai_V) (r : ai_V) (h : d_X_tellPayers_43 F9 x1 x2 x3 V = some r) : Rn e 117 43 [(0, .ref 0), (1, .int x1), (2, .int x2), (3, .int x3)] [] (SH ++ X) V none (SH ++ X) r := by
  rw [d_X_tellPayers_43] at h
  refine rn_go 2 (pc' := 9) (l' := [(3, .int (x3 + (1 : Int32))), (0, .ref 0), (1, .int x1), (2, .int x2)]) (st' := []) (S1 := (SH ++ X)) (V1 := V) rfl ?_
  exact rn_sub [1, 2, 3, 0] rfl rfl (hF9 x1 x2 (x3 + (1 : Int32)) V _ h)
def d_X_tellPayers_9  : Nat → Int32 → Int32 → Int32 → ai_V → Option ai_V
  | 0, _, _, _, _ => none
  | n + 1, x1, x2, x3, V => if (gi V 3 0) ≤ x3 then (some V) else (if ¬ ((x1 >>> (x3 &&& 31)) &&& (1 : Int32)) = (1 : Int32) then (d_X_tellPayers_43 (d_X_tellPayers_9 n) x1 x2 x3 V) else ((d_X_treadsToPay x3 x2 V).bind fun q1 => ((d_Row_add (q1).toInt64 V).bind fun q2 => (d_X_tellPayers_43 (d_X_tellPayers_9 n) x1 x2 x3 q2))))
set_option maxRecDepth 20000 in
theorem t_X_tellPayers_9 {X : ai_S} {e : Nat} (hd : 3 ≤ e)  : ∀ (n : Nat) (x1 : Int32) (x2 : Int32) (x3 : Int32) (V : ai_V) (r : ai_V), d_X_tellPayers_9  n x1 x2 x3 V = some r → Rn e 117 9 [(0, .ref 0), (1, .int x1), (2, .int x2), (3, .int x3)] [] (SH ++ X) V none (SH ++ X) r := by
  intro n
  induction n with
  | zero =>
    intro x1 x2 x3 V r h
    cases h
  | succ n ih =>
    intro x1 x2 x3 V r h
    rw [d_X_tellPayers_9] at h
    refine rn_go 4 (pc' := 17) (l' := [(0, .ref 0), (1, .int x1), (2, .int x2), (3, .int x3)]) (st' := [.int (gi V 3 0), .int x3]) (S1 := (SH ++ X)) (V1 := V) rfl ?_
    rcases ai_if h with ⟨hc, h⟩ | ⟨hc, h⟩
    · refine rn_brT rfl rfl rfl rfl hc ?_
      obtain rfl := Option.some.inj h
      exact rn_ret rfl rfl rfl
    · refine rn_brF rfl rfl rfl rfl hc ?_
      refine rn_go 6 (pc' := 26) (l' := [(0, .ref 0), (1, .int x1), (2, .int x2), (3, .int x3)]) (st' := [.int (1 : Int32), .int ((x1 >>> (x3 &&& 31)) &&& (1 : Int32))]) (S1 := (SH ++ X)) (V1 := V) rfl ?_
      rcases ai_if h with ⟨hc, h⟩ | ⟨hc, h⟩
      · refine rn_brT rfl rfl rfl rfl hc ?_
        exact rn_sub [0, 1, 2, 3] rfl rfl (t_X_tellPayers_43 (X := X) hd (d_X_tellPayers_9 n) (ih) x1 x2 x3 V _ h)
      · refine rn_brF rfl rfl rfl rfl hc ?_
        refine rn_go 5 (pc' := 36) (l' := [(0, .ref 0), (1, .int x1), (2, .int x2), (3, .int x3)]) (st' := [.int x2, .int x3, .ref 0, .ref 22]) (S1 := (SH ++ X)) (V1 := V) rfl ?_
        obtain ⟨q1, hq1, h⟩ := ai_bd h
        refine rn_call rfl rfl rfl rfl rfl rfl (by omega) (t_X_treadsToPay (by omega) hq1) ?_
        refine rn_go 1 (pc' := 40) (l' := [(0, .ref 0), (1, .int x1), (2, .int x2), (3, .int x3)]) (st' := [.long (q1).toInt64, .ref 22]) (S1 := (SH ++ X)) (V1 := V) rfl ?_
        obtain ⟨q2, hq2, h⟩ := ai_bd h
        refine rn_call rfl rfl rfl rfl rfl rfl (by omega) (t_Row_add (by omega) hq2) ?_
        exact rn_sub [0, 1, 2, 3] rfl rfl (t_X_tellPayers_43 (X := X) hd (d_X_tellPayers_9 n) (ih) x1 x2 x3 q2 _ h)
def d_X_tellPayers (x1 : Int32) (x2 : Int32) (V : ai_V) : Option ai_V :=
  (d_Row_clear  V).bind fun q3 => (d_X_tellPayers_9 ai_N x1 x2 (0 : Int32) q3)
set_option maxRecDepth 20000 in
theorem t_X_tellPayers {X : ai_S} {e : Nat} (hd : 3 ≤ e) {x1 : Int32} {x2 : Int32} {V : ai_V} {r : ai_V} (h : d_X_tellPayers x1 x2 V = some r) : Rn e 117 0 (lv_args 0 [.ref 0, .int x1, .int x2]) [] (SH ++ X) V none (SH ++ X) r := by
  rw [d_X_tellPayers] at h
  refine rn_go 2 (pc' := 4) (l' := [(0, .ref 0), (1, .int x1), (2, .int x2)]) (st' := [.ref 22]) (S1 := (SH ++ X)) (V1 := V) rfl ?_
  obtain ⟨q3, hq3, h⟩ := ai_bd h
  refine rn_call rfl rfl rfl rfl rfl rfl (by omega) (t_Row_clear (by omega) hq3) ?_
  refine rn_go 2 (pc' := 9) (l' := [(3, .int (0 : Int32)), (0, .ref 0), (1, .int x1), (2, .int x2)]) (st' := []) (S1 := (SH ++ X)) (V1 := q3) rfl ?_
  exact rn_sub [1, 2, 3, 0] rfl rfl (t_X_tellPayers_9 (X := X) hd ai_N x1 x2 (0 : Int32) q3 _ h)
-- RentByTheWheel$House.hasAll(I)Z (3, None)
def d_House_hasAll (x1 : Int32) (V : ai_V) : Option Int32 :=
  if x1 < 0 then (some (0 : Int32)) else (if ((1 : Int32) <<< ((gi V 3 0) &&& 31)) ≤ x1 then (some (0 : Int32)) else (some (1 : Int32)))
set_option maxRecDepth 20000 in
theorem t_House_hasAll {X : ai_S} {e : Nat} (hd : 0 ≤ e) {x1 : Int32} {V : ai_V} {r : Int32} (h : d_House_hasAll x1 V = some r) : Rn e 24 0 (lv_args 0 [.ref 3, .int x1]) [] (SH ++ X) V (some (.int r)) (SH ++ X) V := by
  rw [d_House_hasAll] at h
  refine rn_go 1 (pc' := 1) (l' := [(0, .ref 3), (1, .int x1)]) (st' := [.int x1]) (S1 := (SH ++ X)) (V1 := V) rfl ?_
  rcases ai_if h with ⟨hc, h⟩ | ⟨hc, h⟩
  · refine rn_brT rfl rfl rfl rfl hc ?_
    refine rn_go 1 (pc' := 19) (l' := [(0, .ref 3), (1, .int x1)]) (st' := [.int (0 : Int32)]) (S1 := (SH ++ X)) (V1 := V) rfl ?_
    obtain rfl := Option.some.inj h
    exact rg_zret rfl (by decide)
  · refine rn_brF rfl rfl rfl rfl hc ?_
    refine rn_go 5 (pc' := 11) (l' := [(0, .ref 3), (1, .int x1)]) (st' := [.int ((1 : Int32) <<< ((gi V 3 0) &&& 31)), .int x1]) (S1 := (SH ++ X)) (V1 := V) rfl ?_
    rcases ai_if h with ⟨hc, h⟩ | ⟨hc, h⟩
    · refine rn_brT rfl rfl rfl rfl hc ?_
      refine rn_go 1 (pc' := 19) (l' := [(0, .ref 3), (1, .int x1)]) (st' := [.int (0 : Int32)]) (S1 := (SH ++ X)) (V1 := V) rfl ?_
      obtain rfl := Option.some.inj h
      exact rg_zret rfl (by decide)
    · refine rn_brF rfl rfl rfl rfl hc ?_
      refine rn_go 2 (pc' := 19) (l' := [(0, .ref 3), (1, .int x1)]) (st' := [.int (1 : Int32)]) (S1 := (SH ++ X)) (V1 := V) rfl ?_
      obtain rfl := Option.some.inj h
      exact rg_zret rfl (by decide)
-- RentByTheWheel.pays(I)I (0, None)
def d_X_pays_59 (F15 : Int32 → Int32 → ai_V → Option (Int32 × ai_V)) (F26 : Int32 → Int32 → Int32 → Int32 → ai_V → Option (Int32 × ai_V)) (x1 : Int32) (x2 : Int32) (x4 : Int32) (s0 : Int32) (s1 : Int32) (V : ai_V) : Option (Int32 × ai_V) :=
  F26 x1 x2 (s1 + s0) (x4 + (1 : Int32)) V
set_option maxRecDepth 20000 in
theorem t_X_pays_59 {X : ai_S} {e : Nat} (hd : 4 ≤ e) (F15 : Int32 → Int32 → ai_V → Option (Int32 × ai_V)) (hF15 : ∀ (x1 : Int32) (x2 : Int32) (V : ai_V) (r : (Int32 × ai_V)), F15 x1 x2 V = some r → Rn e 118 15 [(0, .ref 0), (1, .int x1), (2, .int x2)] [] (SH ++ X) V (some (.int r.1)) (SH ++ X) r.2) (F26 : Int32 → Int32 → Int32 → Int32 → ai_V → Option (Int32 × ai_V)) (hF26 : ∀ (x1 : Int32) (x2 : Int32) (x3 : Int32) (x4 : Int32) (V : ai_V) (r : (Int32 × ai_V)), F26 x1 x2 x3 x4 V = some r → Rn e 118 26 [(0, .ref 0), (1, .int x1), (2, .int x2), (3, .int x3), (4, .int x4)] [] (SH ++ X) V (some (.int r.1)) (SH ++ X) r.2) (x1 : Int32) (x2 : Int32) (x4 : Int32) (s0 : Int32) (s1 : Int32) (V : ai_V) (r : (Int32 × ai_V)) (h : d_X_pays_59 F15 F26 x1 x2 x4 s0 s1 V = some r) : Rn e 118 59 [(0, .ref 0), (1, .int x1), (2, .int x2), (4, .int x4)] [.int s0, .int s1] (SH ++ X) V (some (.int r.1)) (SH ++ X) r.2 := by
  rw [d_X_pays_59] at h
  refine rn_go 4 (pc' := 26) (l' := [(4, .int (x4 + (1 : Int32))), (3, .int (s1 + s0)), (0, .ref 0), (1, .int x1), (2, .int x2)]) (st' := []) (S1 := (SH ++ X)) (V1 := V) rfl ?_
  exact rn_sub [2, 3, 4, 1, 0] rfl rfl (hF26 x1 x2 (s1 + s0) (x4 + (1 : Int32)) V _ h)
def d_X_pays_26 (F15 : Int32 → Int32 → ai_V → Option (Int32 × ai_V)) : Nat → Int32 → Int32 → Int32 → Int32 → ai_V → Option (Int32 × ai_V)
  | 0, _, _, _, _, _ => none
  | n + 1, x1, x2, x3, x4, V => if (gi V 3 0) ≤ x4 then (if x2 < x3 then (F15 x1 (x2 + (1 : Int32)) V) else ((d_X_tellPayers x1 x2 V).bind fun q1 => (some (x2, q1)))) else (if ¬ ((x1 >>> (x4 &&& 31)) &&& (1 : Int32)) = 0 then ((d_X_treadsToPay x4 x2 V).bind fun q2 => (d_X_pays_59 F15 (d_X_pays_26 F15 n) x1 x2 x4 q2 x3 V)) else (d_X_pays_59 F15 (d_X_pays_26 F15 n) x1 x2 x4 (0 : Int32) x3 V))
set_option maxRecDepth 20000 in
theorem t_X_pays_26 {X : ai_S} {e : Nat} (hd : 4 ≤ e) (F15 : Int32 → Int32 → ai_V → Option (Int32 × ai_V)) (hF15 : ∀ (x1 : Int32) (x2 : Int32) (V : ai_V) (r : (Int32 × ai_V)), F15 x1 x2 V = some r → Rn e 118 15 [(0, .ref 0), (1, .int x1), (2, .int x2)] [] (SH ++ X) V (some (.int r.1)) (SH ++ X) r.2) : ∀ (n : Nat) (x1 : Int32) (x2 : Int32) (x3 : Int32) (x4 : Int32) (V : ai_V) (r : (Int32 × ai_V)), d_X_pays_26 F15 n x1 x2 x3 x4 V = some r → Rn e 118 26 [(0, .ref 0), (1, .int x1), (2, .int x2), (3, .int x3), (4, .int x4)] [] (SH ++ X) V (some (.int r.1)) (SH ++ X) r.2 := by
  intro n
  induction n with
  | zero =>
    intro x1 x2 x3 x4 V r h
    cases h
  | succ n ih =>
    intro x1 x2 x3 x4 V r h
    rw [d_X_pays_26] at h
    refine rn_go 4 (pc' := 35) (l' := [(0, .ref 0), (1, .int x1), (2, .int x2), (3, .int x3), (4, .int x4)]) (st' := [.int (gi V 3 0), .int x4]) (S1 := (SH ++ X)) (V1 := V) rfl ?_
    rcases ai_if h with ⟨hc, h⟩ | ⟨hc, h⟩
    · refine rn_brT rfl rfl rfl rfl hc ?_
      refine rn_go 2 (pc' := 69) (l' := [(0, .ref 0), (1, .int x1), (2, .int x2), (3, .int x3), (4, .int x4)]) (st' := [.int x2, .int x3]) (S1 := (SH ++ X)) (V1 := V) rfl ?_
      rcases ai_if h with ⟨hc, h⟩ | ⟨hc, h⟩
      · refine rn_brT rfl rfl rfl rfl hc ?_
        refine rn_go 2 (pc' := 15) (l' := [(2, .int (x2 + (1 : Int32))), (0, .ref 0), (1, .int x1), (3, .int x3), (4, .int x4)]) (st' := []) (S1 := (SH ++ X)) (V1 := V) rfl ?_
        exact rn_sub [1, 2, 0] rfl rfl (hF15 x1 (x2 + (1 : Int32)) V _ h)
      · refine rn_brF rfl rfl rfl rfl hc ?_
        refine rn_go 3 (pc' := 75) (l' := [(0, .ref 0), (1, .int x1), (2, .int x2), (3, .int x3), (4, .int x4)]) (st' := [.int x2, .int x1, .ref 0]) (S1 := (SH ++ X)) (V1 := V) rfl ?_
        obtain ⟨q1, hq1, h⟩ := ai_bd h
        refine rn_call rfl rfl rfl rfl rfl rfl (by omega) (t_X_tellPayers (by omega) hq1) ?_
        refine rn_go 1 (pc' := 79) (l' := [(0, .ref 0), (1, .int x1), (2, .int x2), (3, .int x3), (4, .int x4)]) (st' := [.int x2]) (S1 := (SH ++ X)) (V1 := q1) rfl ?_
        obtain rfl := Option.some.inj h
        exact rn_ret rfl rfl rfl
    · refine rn_brF rfl rfl rfl rfl hc ?_
      refine rn_go 6 (pc' := 45) (l' := [(0, .ref 0), (1, .int x1), (2, .int x2), (3, .int x3), (4, .int x4)]) (st' := [.int ((x1 >>> (x4 &&& 31)) &&& (1 : Int32)), .int x3]) (S1 := (SH ++ X)) (V1 := V) rfl ?_
      rcases ai_if h with ⟨hc, h⟩ | ⟨hc, h⟩
      · refine rn_brT rfl rfl rfl rfl hc ?_
        refine rn_go 3 (pc' := 56) (l' := [(0, .ref 0), (1, .int x1), (2, .int x2), (3, .int x3), (4, .int x4)]) (st' := [.int x2, .int x4, .ref 0, .int x3]) (S1 := (SH ++ X)) (V1 := V) rfl ?_
        obtain ⟨q2, hq2, h⟩ := ai_bd h
        refine rn_call rfl rfl rfl rfl rfl rfl (by omega) (t_X_treadsToPay (by omega) hq2) ?_
        exact rn_sub [0, 1, 2, 4] rfl rfl (t_X_pays_59 (X := X) hd F15 hF15 (d_X_pays_26 F15 n) (ih) x1 x2 x4 q2 x3 V _ h)
      · refine rn_brF rfl rfl rfl rfl hc ?_
        refine rn_go 2 (pc' := 59) (l' := [(0, .ref 0), (1, .int x1), (2, .int x2), (3, .int x3), (4, .int x4)]) (st' := [.int (0 : Int32), .int x3]) (S1 := (SH ++ X)) (V1 := V) rfl ?_
        exact rn_sub [0, 1, 2, 4] rfl rfl (t_X_pays_59 (X := X) hd F15 hF15 (d_X_pays_26 F15 n) (ih) x1 x2 x4 (0 : Int32) x3 V _ h)
def d_X_pays_15  : Nat → Int32 → Int32 → ai_V → Option (Int32 × ai_V)
  | 0, _, _, _ => none
  | n + 1, x1, x2, V => if (40 : Int32) < x2 then (some ((-2 : Int32), V)) else (d_X_pays_26 (d_X_pays_15 n) ai_N x1 x2 (0 : Int32) (0 : Int32) V)
set_option maxRecDepth 20000 in
theorem t_X_pays_15 {X : ai_S} {e : Nat} (hd : 4 ≤ e)  : ∀ (n : Nat) (x1 : Int32) (x2 : Int32) (V : ai_V) (r : (Int32 × ai_V)), d_X_pays_15  n x1 x2 V = some r → Rn e 118 15 [(0, .ref 0), (1, .int x1), (2, .int x2)] [] (SH ++ X) V (some (.int r.1)) (SH ++ X) r.2 := by
  intro n
  induction n with
  | zero =>
    intro x1 x2 V r h
    cases h
  | succ n ih =>
    intro x1 x2 V r h
    rw [d_X_pays_15] at h
    refine rn_go 2 (pc' := 18) (l' := [(0, .ref 0), (1, .int x1), (2, .int x2)]) (st' := [.int (40 : Int32), .int x2]) (S1 := (SH ++ X)) (V1 := V) rfl ?_
    rcases ai_if h with ⟨hc, h⟩ | ⟨hc, h⟩
    · refine rn_brT rfl rfl rfl rfl hc ?_
      refine rn_go 1 (pc' := 88) (l' := [(0, .ref 0), (1, .int x1), (2, .int x2)]) (st' := [.int (-2 : Int32)]) (S1 := (SH ++ X)) (V1 := V) rfl ?_
      obtain rfl := Option.some.inj h
      exact rn_ret rfl rfl rfl
    · refine rn_brF rfl rfl rfl rfl hc ?_
      refine rn_go 4 (pc' := 26) (l' := [(4, .int (0 : Int32)), (3, .int (0 : Int32)), (0, .ref 0), (1, .int x1), (2, .int x2)]) (st' := []) (S1 := (SH ++ X)) (V1 := V) rfl ?_
      exact rn_sub [2, 3, 4, 1, 0] rfl rfl (t_X_pays_26 (X := X) hd (d_X_pays_15 n) (ih) ai_N x1 x2 (0 : Int32) (0 : Int32) V _ h)
def d_X_pays (x1 : Int32) (V : ai_V) : Option (Int32 × ai_V) :=
  (d_House_hasAll x1 V).bind fun q3 => (if ¬ q3 = 0 then (d_X_pays_15 ai_N x1 (0 : Int32) V) else (some ((-1 : Int32), V)))
set_option maxRecDepth 20000 in
theorem t_X_pays {X : ai_S} {e : Nat} (hd : 4 ≤ e) {x1 : Int32} {V : ai_V} {r : (Int32 × ai_V)} (h : d_X_pays x1 V = some r) : Rn e 118 0 (lv_args 0 [.ref 0, .int x1]) [] (SH ++ X) V (some (.int r.1)) (SH ++ X) r.2 := by
  rw [d_X_pays] at h
  refine rn_go 3 (pc' := 5) (l' := [(0, .ref 0), (1, .int x1)]) (st' := [.int x1, .ref 3]) (S1 := (SH ++ X)) (V1 := V) rfl ?_
  obtain ⟨q3, hq3, h⟩ := ai_bd h
  refine rn_call rfl rfl rfl rfl rfl rfl (by omega) (t_House_hasAll (by omega) hq3) ?_
  rcases ai_if h with ⟨hc, h⟩ | ⟨hc, h⟩
  · refine rn_brT rfl rfl rfl rfl hc ?_
    refine rn_go 2 (pc' := 15) (l' := [(2, .int (0 : Int32)), (0, .ref 0), (1, .int x1)]) (st' := []) (S1 := (SH ++ X)) (V1 := V) rfl ?_
    exact rn_sub [1, 2, 0] rfl rfl (t_X_pays_15 (X := X) hd ai_N x1 (0 : Int32) V _ h)
  · refine rn_brF rfl rfl rfl rfl hc ?_
    refine rn_go 1 (pc' := 12) (l' := [(0, .ref 0), (1, .int x1)]) (st' := [.int (-1 : Int32)]) (S1 := (SH ++ X)) (V1 := V) rfl ?_
    obtain rfl := Option.some.inj h
    exact rn_ret rfl rfl rfl
-- RentByTheWheel.strongest(I)I (0, None)
def d_X_strongest_77 (F24 : Int32 → Int32 → Int32 → Int32 → ai_V → Option (Int32 × ai_V)) (x1 : Int32) (x2 : Int32) (x3 : Int32) (x4 : Int32) (V : ai_V) : Option (Int32 × ai_V) :=
  F24 x1 x2 x3 (x4 + (1 : Int32)) V
set_option maxRecDepth 20000 in
theorem t_X_strongest_77 {X : ai_S} {e : Nat} (hd : 4 ≤ e) (F24 : Int32 → Int32 → Int32 → Int32 → ai_V → Option (Int32 × ai_V)) (hF24 : ∀ (x1 : Int32) (x2 : Int32) (x3 : Int32) (x4 : Int32) (V : ai_V) (r : (Int32 × ai_V)), F24 x1 x2 x3 x4 V = some r → Rn e 119 24 [(0, .ref 0), (1, .int x1), (2, .int x2), (3, .int x3), (4, .int x4)] [] (SH ++ X) V (some (.int r.1)) (SH ++ X) r.2) (x1 : Int32) (x2 : Int32) (x3 : Int32) (x4 : Int32) (V : ai_V) (r : (Int32 × ai_V)) (h : d_X_strongest_77 F24 x1 x2 x3 x4 V = some r) : Rn e 119 77 [(0, .ref 0), (1, .int x1), (2, .int x2), (3, .int x3), (4, .int x4)] [] (SH ++ X) V (some (.int r.1)) (SH ++ X) r.2 := by
  rw [d_X_strongest_77] at h
  refine rn_go 2 (pc' := 24) (l' := [(4, .int (x4 + (1 : Int32))), (0, .ref 0), (1, .int x1), (2, .int x2), (3, .int x3)]) (st' := []) (S1 := (SH ++ X)) (V1 := V) rfl ?_
  exact rn_sub [1, 2, 3, 4, 0] rfl rfl (hF24 x1 x2 x3 (x4 + (1 : Int32)) V _ h)
def d_X_strongest_63 (F24 : Int32 → Int32 → Int32 → Int32 → ai_V → Option (Int32 × ai_V)) (x1 : Int32) (x2 : Int32) (x3 : Int32) (x4 : Int32) (s0 : Int32) (V : ai_V) : Option (Int32 × ai_V) :=
  if s0 ≤ x3 then (d_X_strongest_77 F24 x1 x2 x3 x4 V) else (d_X_strongest_77 F24 x1 x4 s0 x4 V)
set_option maxRecDepth 20000 in
theorem t_X_strongest_63 {X : ai_S} {e : Nat} (hd : 4 ≤ e) (F24 : Int32 → Int32 → Int32 → Int32 → ai_V → Option (Int32 × ai_V)) (hF24 : ∀ (x1 : Int32) (x2 : Int32) (x3 : Int32) (x4 : Int32) (V : ai_V) (r : (Int32 × ai_V)), F24 x1 x2 x3 x4 V = some r → Rn e 119 24 [(0, .ref 0), (1, .int x1), (2, .int x2), (3, .int x3), (4, .int x4)] [] (SH ++ X) V (some (.int r.1)) (SH ++ X) r.2) (x1 : Int32) (x2 : Int32) (x3 : Int32) (x4 : Int32) (s0 : Int32) (V : ai_V) (r : (Int32 × ai_V)) (h : d_X_strongest_63 F24 x1 x2 x3 x4 s0 V = some r) : Rn e 119 63 [(0, .ref 0), (1, .int x1), (2, .int x2), (3, .int x3), (4, .int x4)] [.int s0] (SH ++ X) V (some (.int r.1)) (SH ++ X) r.2 := by
  rw [d_X_strongest_63] at h
  refine rn_go 3 (pc' := 68) (l' := [(5, .int s0), (0, .ref 0), (1, .int x1), (2, .int x2), (3, .int x3), (4, .int x4)]) (st' := [.int x3, .int s0]) (S1 := (SH ++ X)) (V1 := V) rfl ?_
  rcases ai_if h with ⟨hc, h⟩ | ⟨hc, h⟩
  · refine rn_brT rfl rfl rfl rfl hc ?_
    exact rn_sub [1, 2, 3, 4, 5] rfl rfl (t_X_strongest_77 (X := X) hd F24 hF24 x1 x2 x3 x4 V _ h)
  · refine rn_brF rfl rfl rfl rfl hc ?_
    refine rn_go 4 (pc' := 77) (l' := [(2, .int x4), (3, .int s0), (5, .int s0), (0, .ref 0), (1, .int x1), (4, .int x4)]) (st' := []) (S1 := (SH ++ X)) (V1 := V) rfl ?_
    exact rn_sub [3, 4, 0, 1, 5] rfl rfl (t_X_strongest_77 (X := X) hd F24 hF24 x1 x4 s0 x4 V _ h)
def d_X_strongest_24  : Nat → Int32 → Int32 → Int32 → Int32 → ai_V → Option (Int32 × ai_V)
  | 0, _, _, _, _, _ => none
  | n + 1, x1, x2, x3, x4, V => if (gi V 3 0) ≤ x4 then ((d_Row_tellOne (x3).toInt64 V).bind fun q1 => (some (x2, q1))) else (if ¬ ((x1 >>> (x4 &&& 31)) &&& (1 : Int32)) = 0 then ((d_Wheel_pailsNow x4 (-1 : Int32) V).bind fun q2 => (d_X_strongest_63 (d_X_strongest_24 n) x1 x2 x3 x4 q2.1 q2.2)) else (d_X_strongest_63 (d_X_strongest_24 n) x1 x2 x3 x4 (-1 : Int32) V))
set_option maxRecDepth 20000 in
theorem t_X_strongest_24 {X : ai_S} {e : Nat} (hd : 4 ≤ e)  : ∀ (n : Nat) (x1 : Int32) (x2 : Int32) (x3 : Int32) (x4 : Int32) (V : ai_V) (r : (Int32 × ai_V)), d_X_strongest_24  n x1 x2 x3 x4 V = some r → Rn e 119 24 [(0, .ref 0), (1, .int x1), (2, .int x2), (3, .int x3), (4, .int x4)] [] (SH ++ X) V (some (.int r.1)) (SH ++ X) r.2 := by
  intro n
  induction n with
  | zero =>
    intro x1 x2 x3 x4 V r h
    cases h
  | succ n ih =>
    intro x1 x2 x3 x4 V r h
    rw [d_X_strongest_24] at h
    refine rn_go 4 (pc' := 33) (l' := [(0, .ref 0), (1, .int x1), (2, .int x2), (3, .int x3), (4, .int x4)]) (st' := [.int (gi V 3 0), .int x4]) (S1 := (SH ++ X)) (V1 := V) rfl ?_
    rcases ai_if h with ⟨hc, h⟩ | ⟨hc, h⟩
    · refine rn_brT rfl rfl rfl rfl hc ?_
      refine rn_go 4 (pc' := 89) (l' := [(0, .ref 0), (1, .int x1), (2, .int x2), (3, .int x3), (4, .int x4)]) (st' := [.long (x3).toInt64, .ref 22]) (S1 := (SH ++ X)) (V1 := V) rfl ?_
      obtain ⟨q1, hq1, h⟩ := ai_bd h
      refine rn_call rfl rfl rfl rfl rfl rfl (by omega) (t_Row_tellOne (by omega) hq1) ?_
      refine rn_go 1 (pc' := 93) (l' := [(0, .ref 0), (1, .int x1), (2, .int x2), (3, .int x3), (4, .int x4)]) (st' := [.int x2]) (S1 := (SH ++ X)) (V1 := q1) rfl ?_
      obtain rfl := Option.some.inj h
      exact rn_ret rfl rfl rfl
    · refine rn_brF rfl rfl rfl rfl hc ?_
      refine rn_go 5 (pc' := 42) (l' := [(0, .ref 0), (1, .int x1), (2, .int x2), (3, .int x3), (4, .int x4)]) (st' := [.int ((x1 >>> (x4 &&& 31)) &&& (1 : Int32))]) (S1 := (SH ++ X)) (V1 := V) rfl ?_
      rcases ai_if h with ⟨hc, h⟩ | ⟨hc, h⟩
      · refine rn_brT rfl rfl rfl rfl hc ?_
        refine rn_go 6 (pc' := 60) (l' := [(0, .ref 0), (1, .int x1), (2, .int x2), (3, .int x3), (4, .int x4)]) (st' := [.ref 16, .int (-1 : Int32), .int x4, .ref 15]) (S1 := (SH ++ X)) (V1 := V) rfl ?_
        obtain ⟨q2, hq2, h⟩ := ai_bd h
        refine rn_call rfl rfl rfl rfl rfl rfl (by omega) (t_Wheel_pailsNow (by omega) hq2) ?_
        exact rn_sub [0, 1, 2, 3, 4] rfl rfl (t_X_strongest_63 (X := X) hd (d_X_strongest_24 n) (ih) x1 x2 x3 x4 q2.1 q2.2 _ h)
      · refine rn_brF rfl rfl rfl rfl hc ?_
        refine rn_go 2 (pc' := 63) (l' := [(0, .ref 0), (1, .int x1), (2, .int x2), (3, .int x3), (4, .int x4)]) (st' := [.int (-1 : Int32)]) (S1 := (SH ++ X)) (V1 := V) rfl ?_
        exact rn_sub [0, 1, 2, 3, 4] rfl rfl (t_X_strongest_63 (X := X) hd (d_X_strongest_24 n) (ih) x1 x2 x3 x4 (-1 : Int32) V _ h)
def d_X_strongest (x1 : Int32) (V : ai_V) : Option (Int32 × ai_V) :=
  (d_House_hasAll x1 V).bind fun q3 => (if q3 = 0 then (some ((-1 : Int32), V)) else (if ¬ x1 = 0 then (d_X_strongest_24 ai_N x1 (-1 : Int32) (-1 : Int32) (0 : Int32) V) else (some ((-1 : Int32), V))))
set_option maxRecDepth 20000 in
theorem t_X_strongest {X : ai_S} {e : Nat} (hd : 4 ≤ e) {x1 : Int32} {V : ai_V} {r : (Int32 × ai_V)} (h : d_X_strongest x1 V = some r) : Rn e 119 0 (lv_args 0 [.ref 0, .int x1]) [] (SH ++ X) V (some (.int r.1)) (SH ++ X) r.2 := by
  rw [d_X_strongest] at h
  refine rn_go 3 (pc' := 5) (l' := [(0, .ref 0), (1, .int x1)]) (st' := [.int x1, .ref 3]) (S1 := (SH ++ X)) (V1 := V) rfl ?_
  obtain ⟨q3, hq3, h⟩ := ai_bd h
  refine rn_call rfl rfl rfl rfl rfl rfl (by omega) (t_House_hasAll (by omega) hq3) ?_
  rcases ai_if h with ⟨hc, h⟩ | ⟨hc, h⟩
  · refine rn_brT rfl rfl rfl rfl hc ?_
    refine rn_go 1 (pc' := 16) (l' := [(0, .ref 0), (1, .int x1)]) (st' := [.int (-1 : Int32)]) (S1 := (SH ++ X)) (V1 := V) rfl ?_
    obtain rfl := Option.some.inj h
    exact rn_ret rfl rfl rfl
  · refine rn_brF rfl rfl rfl rfl hc ?_
    refine rn_go 1 (pc' := 12) (l' := [(0, .ref 0), (1, .int x1)]) (st' := [.int x1]) (S1 := (SH ++ X)) (V1 := V) rfl ?_
    rcases ai_if h with ⟨hc, h⟩ | ⟨hc, h⟩
    · refine rn_brT rfl rfl rfl rfl hc ?_
      refine rn_go 6 (pc' := 24) (l' := [(4, .int (0 : Int32)), (3, .int (-1 : Int32)), (2, .int (-1 : Int32)), (0, .ref 0), (1, .int x1)]) (st' := []) (S1 := (SH ++ X)) (V1 := V) rfl ?_
      exact rn_sub [3, 4, 2, 1, 0] rfl rfl (t_X_strongest_24 (X := X) hd ai_N x1 (-1 : Int32) (-1 : Int32) (0 : Int32) V _ h)
    · refine rn_brF rfl rfl rfl rfl hc ?_
      refine rn_go 1 (pc' := 16) (l' := [(0, .ref 0), (1, .int x1)]) (st' := [.int (-1 : Int32)]) (S1 := (SH ++ X)) (V1 := V) rfl ?_
      obtain rfl := Option.some.inj h
      exact rn_ret rfl rfl rfl
-- RentByTheWheel.dryWithRoom(IIII)I (0, None, None, None, None)
def d_X_dryWithRoom_25  : Nat → Int32 → Int32 → Int32 → Int32 → Int32 → ai_V → Option (Int32 × ai_V)
  | 0, _, _, _, _, _, _ => none
  | n + 1, x2, x3, x4, x5, x6, V => if x3 ≤ x6 then (some (x5, V)) else (if x4 < x5 then (some (x5, V)) else ((d_Wheel_pass_15_19 x2 (-1 : Int32) V).bind fun q1 => (d_X_dryWithRoom_25 n x2 x3 x4 (x5 + (gi q1 15 5)) (x6 + (1 : Int32)) q1)))
set_option maxRecDepth 20000 in
theorem t_X_dryWithRoom_25 {X : ai_S} {e : Nat} (hd : 4 ≤ e)  : ∀ (n : Nat) (x2 : Int32) (x3 : Int32) (x4 : Int32) (x5 : Int32) (x6 : Int32) (V : ai_V) (r : (Int32 × ai_V)), d_X_dryWithRoom_25  n x2 x3 x4 x5 x6 V = some r → Rn e 120 25 [(0, .ref 0), (2, .int x2), (3, .int x3), (4, .int x4), (5, .int x5), (6, .int x6)] [] (SH ++ X) V (some (.int r.1)) (SH ++ X) r.2 := by
  intro n
  induction n with
  | zero =>
    intro x2 x3 x4 x5 x6 V r h
    cases h
  | succ n ih =>
    intro x2 x3 x4 x5 x6 V r h
    rw [d_X_dryWithRoom_25] at h
    refine rn_go 2 (pc' := 28) (l' := [(0, .ref 0), (2, .int x2), (3, .int x3), (4, .int x4), (5, .int x5), (6, .int x6)]) (st' := [.int x3, .int x6]) (S1 := (SH ++ X)) (V1 := V) rfl ?_
    rcases ai_if h with ⟨hc, h⟩ | ⟨hc, h⟩
    · refine rn_brT rfl rfl rfl rfl hc ?_
      refine rn_go 1 (pc' := 71) (l' := [(0, .ref 0), (2, .int x2), (3, .int x3), (4, .int x4), (5, .int x5), (6, .int x6)]) (st' := [.int x5]) (S1 := (SH ++ X)) (V1 := V) rfl ?_
      obtain rfl := Option.some.inj h
      exact rn_ret rfl rfl rfl
    · refine rn_brF rfl rfl rfl rfl hc ?_
      refine rn_go 2 (pc' := 35) (l' := [(0, .ref 0), (2, .int x2), (3, .int x3), (4, .int x4), (5, .int x5), (6, .int x6)]) (st' := [.int x4, .int x5]) (S1 := (SH ++ X)) (V1 := V) rfl ?_
      rcases ai_if h with ⟨hc, h⟩ | ⟨hc, h⟩
      · refine rn_brT rfl rfl rfl rfl hc ?_
        refine rn_go 1 (pc' := 71) (l' := [(0, .ref 0), (2, .int x2), (3, .int x3), (4, .int x4), (5, .int x5), (6, .int x6)]) (st' := [.int x5]) (S1 := (SH ++ X)) (V1 := V) rfl ?_
        obtain rfl := Option.some.inj h
        exact rn_ret rfl rfl rfl
      · refine rn_brF rfl rfl rfl rfl hc ?_
        refine rn_go 6 (pc' := 48) (l' := [(0, .ref 0), (2, .int x2), (3, .int x3), (4, .int x4), (5, .int x5), (6, .int x6)]) (st' := [.int (-1 : Int32), .int x2, .ref 19, .ref 15]) (S1 := (SH ++ X)) (V1 := V) rfl ?_
        obtain ⟨q1, hq1, h⟩ := ai_bd h
        refine rn_call rfl rfl rfl rfl rfl rfl (by omega) (t_Wheel_pass_15_19 (by omega) hq1) ?_
        refine rn_go 8 (pc' := 25) (l' := [(6, .int (x6 + (1 : Int32))), (5, .int (x5 + (gi q1 15 5))), (0, .ref 0), (2, .int x2), (3, .int x3), (4, .int x4)]) (st' := []) (S1 := (SH ++ X)) (V1 := q1) rfl ?_
        exact rn_sub [2, 3, 4, 5, 1, 0] rfl rfl (ih x2 x3 x4 (x5 + (gi q1 15 5)) (x6 + (1 : Int32)) q1 _ h)
def d_X_dryWithRoom (x1 : Int32) (x2 : Int32) (x3 : Int32) (x4 : Int32) (V : ai_V) : Option (Int32 × ai_V) :=
  (d_State_becomes_19_16  (si V 19 2 x1)).bind fun q2 => (d_X_dryWithRoom_25 ai_N x2 x3 x4 (0 : Int32) (0 : Int32) q2)
set_option maxRecDepth 20000 in
theorem t_X_dryWithRoom {X : ai_S} {e : Nat} (hd : 4 ≤ e) {x1 : Int32} {x2 : Int32} {x3 : Int32} {x4 : Int32} {V : ai_V} {r : (Int32 × ai_V)} (h : d_X_dryWithRoom x1 x2 x3 x4 V = some r) : Rn e 120 0 (lv_args 0 [.ref 0, .int x1, .int x2, .int x3, .int x4]) [] (SH ++ X) V (some (.int r.1)) (SH ++ X) r.2 := by
  rw [d_X_dryWithRoom] at h
  refine rn_go 8 (pc' := 16) (l' := [(0, .ref 0), (1, .int x1), (2, .int x2), (3, .int x3), (4, .int x4)]) (st' := [.ref 16, .ref 19]) (S1 := (SH ++ X)) (V1 := (si V 19 2 x1)) rfl ?_
  obtain ⟨q2, hq2, h⟩ := ai_bd h
  refine rn_call rfl rfl rfl rfl rfl rfl (by omega) (t_State_becomes_19_16 (by omega) hq2) ?_
  refine rn_go 4 (pc' := 25) (l' := [(6, .int (0 : Int32)), (5, .int (0 : Int32)), (0, .ref 0), (1, .int x1), (2, .int x2), (3, .int x3), (4, .int x4)]) (st' := []) (S1 := (SH ++ X)) (V1 := q2) rfl ?_
  exact rn_sub [2, 4, 5, 6, 1, 0] rfl rfl (t_X_dryWithRoom_25 (X := X) hd ai_N x2 x3 x4 (0 : Int32) (0 : Int32) q2 _ h)
-- RentByTheWheel.roomy(II)I (0, None, None)
def d_X_roomy_82  (x4 : Int32) (x5 : Int32) (V : ai_V) : Option (Int32 × ai_V) :=
  (d_Row_tellOne (x5).toInt64 V).bind fun q1 => (some (x4, q1))
set_option maxRecDepth 20000 in
theorem t_X_roomy_82 {X : ai_S} {e : Nat} (hd : 5 ≤ e)  (x4 : Int32) (x5 : Int32) (V : ai_V) (r : (Int32 × ai_V)) (h : d_X_roomy_82  x4 x5 V = some r) : Rn e 121 82 [(0, .ref 0), (4, .int x4), (5, .int x5)] [] (SH ++ X) V (some (.int r.1)) (SH ++ X) r.2 := by
  rw [d_X_roomy_82] at h
  refine rn_go 4 (pc' := 89) (l' := [(0, .ref 0), (4, .int x4), (5, .int x5)]) (st' := [.long (x5).toInt64, .ref 22]) (S1 := (SH ++ X)) (V1 := V) rfl ?_
  obtain ⟨q1, hq1, h⟩ := ai_bd h
  refine rn_call rfl rfl rfl rfl rfl rfl (by omega) (t_Row_tellOne (by omega) hq1) ?_
  refine rn_go 1 (pc' := 94) (l' := [(0, .ref 0), (4, .int x4), (5, .int x5)]) (st' := [.int x4]) (S1 := (SH ++ X)) (V1 := q1) rfl ?_
  obtain rfl := Option.some.inj h
  exact rn_ret rfl rfl rfl
def d_X_roomy_51  : Nat → Int32 → Int32 → Int32 → Int32 → Int32 → ai_V → Option (Int32 × ai_V)
  | 0, _, _, _, _, _, _ => none
  | n + 1, x1, x2, x3, x4, x5, V => if (999 : Int32) ≤ x4 then (d_X_roomy_82 x4 x5 V) else (if x5 ≤ x3 then (d_X_roomy_82 x4 x5 V) else ((d_X_dryWithRoom (x4 + (1 : Int32)) x1 x2 x3 V).bind fun q2 => (d_X_roomy_51 n x1 x2 x3 (x4 + (1 : Int32)) q2.1 q2.2)))
set_option maxRecDepth 20000 in
theorem t_X_roomy_51 {X : ai_S} {e : Nat} (hd : 5 ≤ e)  : ∀ (n : Nat) (x1 : Int32) (x2 : Int32) (x3 : Int32) (x4 : Int32) (x5 : Int32) (V : ai_V) (r : (Int32 × ai_V)), d_X_roomy_51  n x1 x2 x3 x4 x5 V = some r → Rn e 121 51 [(0, .ref 0), (1, .int x1), (2, .int x2), (3, .int x3), (4, .int x4), (5, .int x5)] [] (SH ++ X) V (some (.int r.1)) (SH ++ X) r.2 := by
  intro n
  induction n with
  | zero =>
    intro x1 x2 x3 x4 x5 V r h
    cases h
  | succ n ih =>
    intro x1 x2 x3 x4 x5 V r h
    rw [d_X_roomy_51] at h
    refine rn_go 2 (pc' := 56) (l' := [(0, .ref 0), (1, .int x1), (2, .int x2), (3, .int x3), (4, .int x4), (5, .int x5)]) (st' := [.int (999 : Int32), .int x4]) (S1 := (SH ++ X)) (V1 := V) rfl ?_
    rcases ai_if h with ⟨hc, h⟩ | ⟨hc, h⟩
    · refine rn_brT rfl rfl rfl rfl hc ?_
      exact rn_sub [0, 4, 5] rfl rfl (t_X_roomy_82 (X := X) hd x4 x5 V _ h)
    · refine rn_brF rfl rfl rfl rfl hc ?_
      refine rn_go 2 (pc' := 62) (l' := [(0, .ref 0), (1, .int x1), (2, .int x2), (3, .int x3), (4, .int x4), (5, .int x5)]) (st' := [.int x3, .int x5]) (S1 := (SH ++ X)) (V1 := V) rfl ?_
      rcases ai_if h with ⟨hc, h⟩ | ⟨hc, h⟩
      · refine rn_brT rfl rfl rfl rfl hc ?_
        exact rn_sub [0, 4, 5] rfl rfl (t_X_roomy_82 (X := X) hd x4 x5 V _ h)
      · refine rn_brF rfl rfl rfl rfl hc ?_
        refine rn_go 6 (pc' := 74) (l' := [(4, .int (x4 + (1 : Int32))), (0, .ref 0), (1, .int x1), (2, .int x2), (3, .int x3), (5, .int x5)]) (st' := [.int x3, .int x2, .int x1, .int (x4 + (1 : Int32)), .ref 0]) (S1 := (SH ++ X)) (V1 := V) rfl ?_
        obtain ⟨q2, hq2, h⟩ := ai_bd h
        refine rn_call rfl rfl rfl rfl rfl rfl (by omega) (t_X_dryWithRoom (by omega) hq2) ?_
        refine rn_go 2 (pc' := 51) (l' := [(5, .int q2.1), (4, .int (x4 + (1 : Int32))), (0, .ref 0), (1, .int x1), (2, .int x2), (3, .int x3)]) (st' := []) (S1 := (SH ++ X)) (V1 := q2.2) rfl ?_
        exact rn_sub [2, 3, 4, 5, 1, 0] rfl rfl (ih x1 x2 x3 (x4 + (1 : Int32)) q2.1 q2.2 _ h)
def d_X_roomy (x1 : Int32) (x2 : Int32) (V : ai_V) : Option (Int32 × ai_V) :=
  (d_House_has x1 V).bind fun q3 => (if q3 = 0 then (some ((-1 : Int32), V)) else (if x2 < (1 : Int32) then (some ((-1 : Int32), V)) else (if x2 ≤ (60 : Int32) then ((d_X_dryWithRoom (999 : Int32) x1 x2 (2147483647 : Int32) V).bind fun q4 => ((d_X_dryWithRoom (1 : Int32) x1 x2 q4.1 q4.2).bind fun q5 => (d_X_roomy_51 ai_N x1 x2 q4.1 (1 : Int32) q5.1 q5.2))) else (some ((-1 : Int32), V)))))
set_option maxRecDepth 20000 in
theorem t_X_roomy {X : ai_S} {e : Nat} (hd : 5 ≤ e) {x1 : Int32} {x2 : Int32} {V : ai_V} {r : (Int32 × ai_V)} (h : d_X_roomy x1 x2 V = some r) : Rn e 121 0 (lv_args 0 [.ref 0, .int x1, .int x2]) [] (SH ++ X) V (some (.int r.1)) (SH ++ X) r.2 := by
  rw [d_X_roomy] at h
  refine rn_go 3 (pc' := 5) (l' := [(0, .ref 0), (1, .int x1), (2, .int x2)]) (st' := [.int x1, .ref 3]) (S1 := (SH ++ X)) (V1 := V) rfl ?_
  obtain ⟨q3, hq3, h⟩ := ai_bd h
  refine rn_call rfl rfl rfl rfl rfl rfl (by omega) (t_House_has (by omega) hq3) ?_
  rcases ai_if h with ⟨hc, h⟩ | ⟨hc, h⟩
  · refine rn_brT rfl rfl rfl rfl hc ?_
    refine rn_go 1 (pc' := 23) (l' := [(0, .ref 0), (1, .int x1), (2, .int x2)]) (st' := [.int (-1 : Int32)]) (S1 := (SH ++ X)) (V1 := V) rfl ?_
    obtain rfl := Option.some.inj h
    exact rn_ret rfl rfl rfl
  · refine rn_brF rfl rfl rfl rfl hc ?_
    refine rn_go 2 (pc' := 13) (l' := [(0, .ref 0), (1, .int x1), (2, .int x2)]) (st' := [.int (1 : Int32), .int x2]) (S1 := (SH ++ X)) (V1 := V) rfl ?_
    rcases ai_if h with ⟨hc, h⟩ | ⟨hc, h⟩
    · refine rn_brT rfl rfl rfl rfl hc ?_
      refine rn_go 1 (pc' := 23) (l' := [(0, .ref 0), (1, .int x1), (2, .int x2)]) (st' := [.int (-1 : Int32)]) (S1 := (SH ++ X)) (V1 := V) rfl ?_
      obtain rfl := Option.some.inj h
      exact rn_ret rfl rfl rfl
    · refine rn_brF rfl rfl rfl rfl hc ?_
      refine rn_go 2 (pc' := 19) (l' := [(0, .ref 0), (1, .int x1), (2, .int x2)]) (st' := [.int (60 : Int32), .int x2]) (S1 := (SH ++ X)) (V1 := V) rfl ?_
      rcases ai_if h with ⟨hc, h⟩ | ⟨hc, h⟩
      · refine rn_brT rfl rfl rfl rfl hc ?_
        refine rn_go 5 (pc' := 33) (l' := [(0, .ref 0), (1, .int x1), (2, .int x2)]) (st' := [.int (2147483647 : Int32), .int x2, .int x1, .int (999 : Int32), .ref 0]) (S1 := (SH ++ X)) (V1 := V) rfl ?_
        obtain ⟨q4, hq4, h⟩ := ai_bd h
        refine rn_call rfl rfl rfl rfl rfl rfl (by omega) (t_X_dryWithRoom (by omega) hq4) ?_
        refine rn_go 8 (pc' := 46) (l' := [(4, .int (1 : Int32)), (3, .int q4.1), (0, .ref 0), (1, .int x1), (2, .int x2)]) (st' := [.int q4.1, .int x2, .int x1, .int (1 : Int32), .ref 0]) (S1 := (SH ++ X)) (V1 := q4.2) rfl ?_
        obtain ⟨q5, hq5, h⟩ := ai_bd h
        refine rn_call rfl rfl rfl rfl rfl rfl (by omega) (t_X_dryWithRoom (by omega) hq5) ?_
        refine rn_go 1 (pc' := 51) (l' := [(5, .int q5.1), (4, .int (1 : Int32)), (3, .int q4.1), (0, .ref 0), (1, .int x1), (2, .int x2)]) (st' := []) (S1 := (SH ++ X)) (V1 := q5.2) rfl ?_
        exact rn_sub [3, 4, 5, 2, 1, 0] rfl rfl (t_X_roomy_51 (X := X) hd ai_N x1 x2 q4.1 (1 : Int32) q5.1 q5.2 _ h)
      · refine rn_brF rfl rfl rfl rfl hc ?_
        refine rn_go 1 (pc' := 23) (l' := [(0, .ref 0), (1, .int x1), (2, .int x2)]) (st' := [.int (-1 : Int32)]) (S1 := (SH ++ X)) (V1 := V) rfl ?_
        obtain rfl := Option.some.inj h
        exact rn_ret rfl rfl rfl
-- RentByTheWheel$House.firstGreatest([I)I (3, 20)
def d_House_firstGreatest_23 (F4 : Int32 → Int32 → ai_V → Option Int32) (x2 : Int32) (x3 : Int32) (V : ai_V) : Option Int32 :=
  F4 x2 (x3 + (1 : Int32)) V
set_option maxRecDepth 20000 in
theorem t_House_firstGreatest_23 {X : ai_S} {e : Nat} (hd : 0 ≤ e) (F4 : Int32 → Int32 → ai_V → Option Int32) (hF4 : ∀ (x2 : Int32) (x3 : Int32) (V : ai_V) (r : Int32), F4 x2 x3 V = some r → Rn e 27 4 [(0, .ref 3), (1, .ref 20), (2, .int x2), (3, .int x3)] [] (SH ++ X) V (some (.int r)) (SH ++ X) V) (x2 : Int32) (x3 : Int32) (V : ai_V) (r : Int32) (h : d_House_firstGreatest_23 F4 x2 x3 V = some r) : Rn e 27 23 [(0, .ref 3), (1, .ref 20), (2, .int x2), (3, .int x3)] [] (SH ++ X) V (some (.int r)) (SH ++ X) V := by
  rw [d_House_firstGreatest_23] at h
  refine rn_go 2 (pc' := 4) (l' := [(3, .int (x3 + (1 : Int32))), (0, .ref 3), (1, .ref 20), (2, .int x2)]) (st' := []) (S1 := (SH ++ X)) (V1 := V) rfl ?_
  exact rn_sub [1, 2, 3, 0] rfl rfl (hF4 x2 (x3 + (1 : Int32)) V _ h)
def d_House_firstGreatest_4  : Nat → Int32 → Int32 → ai_V → Option Int32
  | 0, _, _, _ => none
  | n + 1, x2, x3, V => if (gi V 3 0) ≤ x3 then (some x2) else (if ai_in x3 6 then (if ai_in x2 6 then (if (ga V 20 (x3).toNatClampNeg) ≤ (ga V 20 (x2).toNatClampNeg) then (d_House_firstGreatest_23 (d_House_firstGreatest_4 n) x2 x3 V) else (d_House_firstGreatest_23 (d_House_firstGreatest_4 n) x3 x3 V)) else none) else none)
set_option maxRecDepth 20000 in
theorem t_House_firstGreatest_4 {X : ai_S} {e : Nat} (hd : 0 ≤ e)  : ∀ (n : Nat) (x2 : Int32) (x3 : Int32) (V : ai_V) (r : Int32), d_House_firstGreatest_4  n x2 x3 V = some r → Rn e 27 4 [(0, .ref 3), (1, .ref 20), (2, .int x2), (3, .int x3)] [] (SH ++ X) V (some (.int r)) (SH ++ X) V := by
  intro n
  induction n with
  | zero =>
    intro x2 x3 V r h
    cases h
  | succ n ih =>
    intro x2 x3 V r h
    rw [d_House_firstGreatest_4] at h
    refine rn_go 3 (pc' := 9) (l' := [(0, .ref 3), (1, .ref 20), (2, .int x2), (3, .int x3)]) (st' := [.int (gi V 3 0), .int x3]) (S1 := (SH ++ X)) (V1 := V) rfl ?_
    rcases ai_if h with ⟨hc, h⟩ | ⟨hc, h⟩
    · refine rn_brT rfl rfl rfl rfl hc ?_
      refine rn_go 1 (pc' := 30) (l' := [(0, .ref 3), (1, .ref 20), (2, .int x2), (3, .int x3)]) (st' := [.int x2]) (S1 := (SH ++ X)) (V1 := V) rfl ?_
      obtain rfl := Option.some.inj h
      exact rn_ret rfl rfl rfl
    · refine rn_brF rfl rfl rfl rfl hc ?_
      refine rn_go 2 (pc' := 14) (l' := [(0, .ref 3), (1, .ref 20), (2, .int x2), (3, .int x3)]) (st' := [.int x3, .ref 20]) (S1 := (SH ++ X)) (V1 := V) rfl ?_
      obtain ⟨hg, h⟩ := ai_gd h
      refine rg_iald (n := 6) rfl rfl hg ?_
      refine rn_go 2 (pc' := 17) (l' := [(0, .ref 3), (1, .ref 20), (2, .int x2), (3, .int x3)]) (st' := [.int x2, .ref 20, .int (ga V 20 (x3).toNatClampNeg)]) (S1 := (SH ++ X)) (V1 := V) rfl ?_
      obtain ⟨hg, h⟩ := ai_gd h
      refine rg_iald (n := 6) rfl rfl hg ?_
      rcases ai_if h with ⟨hc, h⟩ | ⟨hc, h⟩
      · refine rn_brT rfl rfl rfl rfl hc ?_
        exact rn_sub [0, 1, 2, 3] rfl rfl (t_House_firstGreatest_23 (X := X) hd (d_House_firstGreatest_4 n) (ih) x2 x3 V _ h)
      · refine rn_brF rfl rfl rfl rfl hc ?_
        refine rn_go 2 (pc' := 23) (l' := [(2, .int x3), (0, .ref 3), (1, .ref 20), (3, .int x3)]) (st' := []) (S1 := (SH ++ X)) (V1 := V) rfl ?_
        exact rn_sub [1, 2, 0, 3] rfl rfl (t_House_firstGreatest_23 (X := X) hd (d_House_firstGreatest_4 n) (ih) x3 x3 V _ h)
def d_House_firstGreatest  (V : ai_V) : Option Int32 :=
  d_House_firstGreatest_4 ai_N (0 : Int32) (1 : Int32) V
set_option maxRecDepth 20000 in
theorem t_House_firstGreatest {X : ai_S} {e : Nat} (hd : 0 ≤ e)  {V : ai_V} {r : Int32} (h : d_House_firstGreatest  V = some r) : Rn e 27 0 (lv_args 0 [.ref 3, .ref 20]) [] (SH ++ X) V (some (.int r)) (SH ++ X) V := by
  rw [d_House_firstGreatest] at h
  refine rn_go 4 (pc' := 4) (l' := [(3, .int (1 : Int32)), (2, .int (0 : Int32)), (0, .ref 3), (1, .ref 20)]) (st' := []) (S1 := (SH ++ X)) (V1 := V) rfl ?_
  exact rn_sub [2, 3, 1, 0] rfl rfl (t_House_firstGreatest_4 (X := X) hd ai_N (0 : Int32) (1 : Int32) V _ h)
-- RentByTheWheel.even(I)I (0, None)
def d_X_even_74 (F39 : Int32 → Int32 → Int32 → Int32 → ai_V → Option (Int32 × ai_V)) (x1 : Int32) (x3 : Int32) (x4 : Int32) (x5 : Int32) (x6 : Int32) (V : ai_V) : Option (Int32 × ai_V) :=
  (d_Wheel_pass_15_19 x6 (-1 : Int32) V).bind fun q1 => (F39 x1 (x3 + (gi q1 15 5)) x4 (x5 + (1 : Int32)) q1)
set_option maxRecDepth 20000 in
theorem t_X_even_74 {X : ai_S} {e : Nat} (hd : 4 ≤ e) (F39 : Int32 → Int32 → Int32 → Int32 → ai_V → Option (Int32 × ai_V)) (hF39 : ∀ (x1 : Int32) (x3 : Int32) (x4 : Int32) (x5 : Int32) (V : ai_V) (r : (Int32 × ai_V)), F39 x1 x3 x4 x5 V = some r → Rn e 122 39 [(0, .ref 0), (1, .int x1), (2, .ref 19), (3, .int x3), (4, .int x4), (5, .int x5)] [] (SH ++ X) V (some (.int r.1)) (SH ++ X) r.2) (x1 : Int32) (x3 : Int32) (x4 : Int32) (x5 : Int32) (x6 : Int32) (V : ai_V) (r : (Int32 × ai_V)) (h : d_X_even_74 F39 x1 x3 x4 x5 x6 V = some r) : Rn e 122 74 [(0, .ref 0), (1, .int x1), (2, .ref 19), (3, .int x3), (4, .int x4), (5, .int x5), (6, .int x6)] [] (SH ++ X) V (some (.int r.1)) (SH ++ X) r.2 := by
  rw [d_X_even_74] at h
  refine rn_go 5 (pc' := 82) (l' := [(0, .ref 0), (1, .int x1), (2, .ref 19), (3, .int x3), (4, .int x4), (5, .int x5), (6, .int x6)]) (st' := [.int (-1 : Int32), .int x6, .ref 19, .ref 15]) (S1 := (SH ++ X)) (V1 := V) rfl ?_
  obtain ⟨q1, hq1, h⟩ := ai_bd h
  refine rn_call rfl rfl rfl rfl rfl rfl (by omega) (t_Wheel_pass_15_19 (by omega) hq1) ?_
  refine rn_go 8 (pc' := 39) (l' := [(5, .int (x5 + (1 : Int32))), (3, .int (x3 + (gi q1 15 5))), (0, .ref 0), (1, .int x1), (2, .ref 19), (4, .int x4), (6, .int x6)]) (st' := []) (S1 := (SH ++ X)) (V1 := q1) rfl ?_
  exact rn_sub [2, 3, 4, 1, 5, 0] rfl rfl (hF39 x1 (x3 + (gi q1 15 5)) x4 (x5 + (1 : Int32)) q1 _ h)
def d_X_even_39  : Nat → Int32 → Int32 → Int32 → Int32 → ai_V → Option (Int32 × ai_V)
  | 0, _, _, _, _, _ => none
  | n + 1, x1, x3, x4, x5, V => if x1 ≤ x5 then ((d_House_firstGreatest  V).bind fun q2 => (if ai_in q2 6 then ((d_Row_tellThree (((gi V 19 1)).toInt64) (((ga V 20 (q2).toNatClampNeg)).toInt64) (x4).toInt64 V).bind fun q3 => (some (x3, q3))) else none)) else ((d_House_firstGreatest  V).bind fun q4 => (if ai_in q4 6 then (if 0 < (ga V 20 (q4).toNatClampNeg) then (d_X_even_74 (d_X_even_39 n) x1 x3 x4 x5 q4 V) else (d_X_even_74 (d_X_even_39 n) x1 x3 (x4 + (1 : Int32)) x5 (-1 : Int32) V)) else none))
set_option maxRecDepth 20000 in
theorem t_X_even_39 {X : ai_S} {e : Nat} (hd : 4 ≤ e)  : ∀ (n : Nat) (x1 : Int32) (x3 : Int32) (x4 : Int32) (x5 : Int32) (V : ai_V) (r : (Int32 × ai_V)), d_X_even_39  n x1 x3 x4 x5 V = some r → Rn e 122 39 [(0, .ref 0), (1, .int x1), (2, .ref 19), (3, .int x3), (4, .int x4), (5, .int x5)] [] (SH ++ X) V (some (.int r.1)) (SH ++ X) r.2 := by
  intro n
  induction n with
  | zero =>
    intro x1 x3 x4 x5 V r h
    cases h
  | succ n ih =>
    intro x1 x3 x4 x5 V r h
    rw [d_X_even_39] at h
    refine rn_go 2 (pc' := 42) (l' := [(0, .ref 0), (1, .int x1), (2, .ref 19), (3, .int x3), (4, .int x4), (5, .int x5)]) (st' := [.int x1, .int x5]) (S1 := (SH ++ X)) (V1 := V) rfl ?_
    rcases ai_if h with ⟨hc, h⟩ | ⟨hc, h⟩
    · refine rn_brT rfl rfl rfl rfl hc ?_
      refine rn_go 11 (pc' := 122) (l' := [(0, .ref 0), (1, .int x1), (2, .ref 19), (3, .int x3), (4, .int x4), (5, .int x5)]) (st' := [.ref 20, .ref 3, .ref 20, .long ((gi V 19 1)).toInt64, .ref 22]) (S1 := (SH ++ X)) (V1 := V) rfl ?_
      obtain ⟨q2, hq2, h⟩ := ai_bd h
      refine rn_call rfl rfl rfl rfl rfl rfl (by omega) (t_House_firstGreatest (by omega) hq2) ?_
      obtain ⟨hg, h⟩ := ai_gd h
      refine rg_iald (n := 6) rfl rfl hg ?_
      refine rn_go 3 (pc' := 130) (l' := [(0, .ref 0), (1, .int x1), (2, .ref 19), (3, .int x3), (4, .int x4), (5, .int x5)]) (st' := [.long (x4).toInt64, .long ((ga V 20 (q2).toNatClampNeg)).toInt64, .long ((gi V 19 1)).toInt64, .ref 22]) (S1 := (SH ++ X)) (V1 := V) rfl ?_
      obtain ⟨q3, hq3, h⟩ := ai_bd h
      refine rn_call rfl rfl rfl rfl rfl rfl (by omega) (t_Row_tellThree (by omega) hq3) ?_
      refine rn_go 1 (pc' := 134) (l' := [(0, .ref 0), (1, .int x1), (2, .ref 19), (3, .int x3), (4, .int x4), (5, .int x5)]) (st' := [.int x3]) (S1 := (SH ++ X)) (V1 := q3) rfl ?_
      obtain rfl := Option.some.inj h
      exact rn_ret rfl rfl rfl
    · refine rn_brF rfl rfl rfl rfl hc ?_
      refine rn_go 4 (pc' := 53) (l' := [(0, .ref 0), (1, .int x1), (2, .ref 19), (3, .int x3), (4, .int x4), (5, .int x5)]) (st' := [.ref 20, .ref 3]) (S1 := (SH ++ X)) (V1 := V) rfl ?_
      obtain ⟨q4, hq4, h⟩ := ai_bd h
      refine rn_call rfl rfl rfl rfl rfl rfl (by omega) (t_House_firstGreatest (by omega) hq4) ?_
      refine rn_go 4 (pc' := 64) (l' := [(6, .int q4), (0, .ref 0), (1, .int x1), (2, .ref 19), (3, .int x3), (4, .int x4), (5, .int x5)]) (st' := [.int q4, .ref 20]) (S1 := (SH ++ X)) (V1 := V) rfl ?_
      obtain ⟨hg, h⟩ := ai_gd h
      refine rg_iald (n := 6) rfl rfl hg ?_
      rcases ai_if h with ⟨hc, h⟩ | ⟨hc, h⟩
      · refine rn_brT rfl rfl rfl rfl hc ?_
        exact rn_sub [1, 2, 3, 4, 5, 6, 0] rfl rfl (t_X_even_74 (X := X) hd (d_X_even_39 n) (ih) x1 x3 x4 x5 q4 V _ h)
      · refine rn_brF rfl rfl rfl rfl hc ?_
        refine rn_go 3 (pc' := 74) (l' := [(4, .int (x4 + (1 : Int32))), (6, .int (-1 : Int32)), (0, .ref 0), (1, .int x1), (2, .ref 19), (3, .int x3), (5, .int x5)]) (st' := []) (S1 := (SH ++ X)) (V1 := V) rfl ?_
        exact rn_sub [2, 3, 4, 5, 0, 6, 1] rfl rfl (t_X_even_74 (X := X) hd (d_X_even_39 n) (ih) x1 x3 (x4 + (1 : Int32)) x5 (-1 : Int32) V _ h)
def d_X_even (x1 : Int32) (V : ai_V) : Option (Int32 × ai_V) :=
  if x1 < (1 : Int32) then (some ((-1 : Int32), V)) else (if x1 ≤ (60 : Int32) then (if ¬ (gi V 3 0) = 0 then ((d_X_asked  V).bind fun q5 => (d_X_even_39 ai_N x1 (0 : Int32) (0 : Int32) (0 : Int32) q5)) else (some ((-2 : Int32), V))) else (some ((-1 : Int32), V)))
set_option maxRecDepth 20000 in
theorem t_X_even {X : ai_S} {e : Nat} (hd : 4 ≤ e) {x1 : Int32} {V : ai_V} {r : (Int32 × ai_V)} (h : d_X_even x1 V = some r) : Rn e 122 0 (lv_args 0 [.ref 0, .int x1]) [] (SH ++ X) V (some (.int r.1)) (SH ++ X) r.2 := by
  rw [d_X_even] at h
  refine rn_go 2 (pc' := 2) (l' := [(0, .ref 0), (1, .int x1)]) (st' := [.int (1 : Int32), .int x1]) (S1 := (SH ++ X)) (V1 := V) rfl ?_
  rcases ai_if h with ⟨hc, h⟩ | ⟨hc, h⟩
  · refine rn_brT rfl rfl rfl rfl hc ?_
    refine rn_go 1 (pc' := 12) (l' := [(0, .ref 0), (1, .int x1)]) (st' := [.int (-1 : Int32)]) (S1 := (SH ++ X)) (V1 := V) rfl ?_
    obtain rfl := Option.some.inj h
    exact rn_ret rfl rfl rfl
  · refine rn_brF rfl rfl rfl rfl hc ?_
    refine rn_go 2 (pc' := 8) (l' := [(0, .ref 0), (1, .int x1)]) (st' := [.int (60 : Int32), .int x1]) (S1 := (SH ++ X)) (V1 := V) rfl ?_
    rcases ai_if h with ⟨hc, h⟩ | ⟨hc, h⟩
    · refine rn_brT rfl rfl rfl rfl hc ?_
      refine rn_go 3 (pc' := 20) (l' := [(0, .ref 0), (1, .int x1)]) (st' := [.int (gi V 3 0)]) (S1 := (SH ++ X)) (V1 := V) rfl ?_
      rcases ai_if h with ⟨hc, h⟩ | ⟨hc, h⟩
      · refine rn_brT rfl rfl rfl rfl hc ?_
        refine rn_go 1 (pc' := 27) (l' := [(0, .ref 0), (1, .int x1)]) (st' := [.ref 0]) (S1 := (SH ++ X)) (V1 := V) rfl ?_
        obtain ⟨q5, hq5, h⟩ := ai_bd h
        refine rn_call rfl rfl rfl rfl rfl rfl (by omega) (t_X_asked (by omega) hq5) ?_
        refine rn_go 7 (pc' := 39) (l' := [(5, .int (0 : Int32)), (4, .int (0 : Int32)), (3, .int (0 : Int32)), (2, .ref 19), (0, .ref 0), (1, .int x1)]) (st' := []) (S1 := (SH ++ X)) (V1 := q5) rfl ?_
        exact rn_sub [4, 5, 3, 2, 1, 0] rfl rfl (t_X_even_39 (X := X) hd ai_N x1 (0 : Int32) (0 : Int32) (0 : Int32) q5 _ h)
      · refine rn_brF rfl rfl rfl rfl hc ?_
        refine rn_go 1 (pc' := 25) (l' := [(0, .ref 0), (1, .int x1)]) (st' := [.int (-2 : Int32)]) (S1 := (SH ++ X)) (V1 := V) rfl ?_
        obtain rfl := Option.some.inj h
        exact rn_ret rfl rfl rfl
    · refine rn_brF rfl rfl rfl rfl hc ?_
      refine rn_go 1 (pc' := 12) (l' := [(0, .ref 0), (1, .int x1)]) (st' := [.int (-1 : Int32)]) (S1 := (SH ++ X)) (V1 := V) rfl ?_
      obtain rfl := Option.some.inj h
      exact rn_ret rfl rfl rfl
-- RentByTheWheel$House.wantsIn(I)I (3, None)
def d_House_wantsIn_4  : Nat → Int32 → Int32 → Int32 → ai_V → Option Int32
  | 0, _, _, _, _ => none
  | n + 1, x1, x2, x3, V => if (gi V 3 0) ≤ x3 then (some x2) else ((d_House_wantOf x3 x1 V).bind fun q1 => (d_House_wantsIn_4 n x1 (x2 + q1) (x3 + (1 : Int32)) V))
set_option maxRecDepth 20000 in
theorem t_House_wantsIn_4 {X : ai_S} {e : Nat} (hd : 2 ≤ e)  : ∀ (n : Nat) (x1 : Int32) (x2 : Int32) (x3 : Int32) (V : ai_V) (r : Int32), d_House_wantsIn_4  n x1 x2 x3 V = some r → Rn e 28 4 [(0, .ref 3), (1, .int x1), (2, .int x2), (3, .int x3)] [] (SH ++ X) V (some (.int r)) (SH ++ X) V := by
  intro n
  induction n with
  | zero =>
    intro x1 x2 x3 V r h
    cases h
  | succ n ih =>
    intro x1 x2 x3 V r h
    rw [d_House_wantsIn_4] at h
    refine rn_go 3 (pc' := 9) (l' := [(0, .ref 3), (1, .int x1), (2, .int x2), (3, .int x3)]) (st' := [.int (gi V 3 0), .int x3]) (S1 := (SH ++ X)) (V1 := V) rfl ?_
    rcases ai_if h with ⟨hc, h⟩ | ⟨hc, h⟩
    · refine rn_brT rfl rfl rfl rfl hc ?_
      refine rn_go 1 (pc' := 28) (l' := [(0, .ref 3), (1, .int x1), (2, .int x2), (3, .int x3)]) (st' := [.int x2]) (S1 := (SH ++ X)) (V1 := V) rfl ?_
      obtain rfl := Option.some.inj h
      exact rn_ret rfl rfl rfl
    · refine rn_brF rfl rfl rfl rfl hc ?_
      refine rn_go 4 (pc' := 16) (l' := [(0, .ref 3), (1, .int x1), (2, .int x2), (3, .int x3)]) (st' := [.int x1, .int x3, .ref 3, .int x2]) (S1 := (SH ++ X)) (V1 := V) rfl ?_
      obtain ⟨q1, hq1, h⟩ := ai_bd h
      refine rn_call rfl rfl rfl rfl rfl rfl (by omega) (t_House_wantOf (by omega) hq1) ?_
      refine rn_go 4 (pc' := 4) (l' := [(3, .int (x3 + (1 : Int32))), (2, .int (x2 + q1)), (0, .ref 3), (1, .int x1)]) (st' := []) (S1 := (SH ++ X)) (V1 := V) rfl ?_
      exact rn_sub [2, 3, 1, 0] rfl rfl (ih x1 (x2 + q1) (x3 + (1 : Int32)) V _ h)
def d_House_wantsIn (x1 : Int32) (V : ai_V) : Option Int32 :=
  d_House_wantsIn_4 ai_N x1 (0 : Int32) (0 : Int32) V
set_option maxRecDepth 20000 in
theorem t_House_wantsIn {X : ai_S} {e : Nat} (hd : 2 ≤ e) {x1 : Int32} {V : ai_V} {r : Int32} (h : d_House_wantsIn x1 V = some r) : Rn e 28 0 (lv_args 0 [.ref 3, .int x1]) [] (SH ++ X) V (some (.int r)) (SH ++ X) V := by
  rw [d_House_wantsIn] at h
  refine rn_go 4 (pc' := 4) (l' := [(3, .int (0 : Int32)), (2, .int (0 : Int32)), (0, .ref 3), (1, .int x1)]) (st' := []) (S1 := (SH ++ X)) (V1 := V) rfl ?_
  exact rn_sub [2, 3, 1, 0] rfl rfl (t_House_wantsIn_4 (X := X) hd ai_N x1 (0 : Int32) (0 : Int32) V _ h)
-- RentByTheWheel.thirst(I)I (0, None)
def d_X_thirst_69 (F23 : Int32 → Int32 → Int32 → Int32 → Int32 → ai_V → Option (Int32 × ai_V)) (x1 : Int32) (x2 : Int32) (x3 : Int32) (x4 : Int32) (x5 : Int32) (V : ai_V) : Option (Int32 × ai_V) :=
  F23 x1 x2 x3 x4 (x5 + (1 : Int32)) V
set_option maxRecDepth 20000 in
theorem t_X_thirst_69 {X : ai_S} {e : Nat} (hd : 3 ≤ e) (F23 : Int32 → Int32 → Int32 → Int32 → Int32 → ai_V → Option (Int32 × ai_V)) (hF23 : ∀ (x1 : Int32) (x2 : Int32) (x3 : Int32) (x4 : Int32) (x5 : Int32) (V : ai_V) (r : (Int32 × ai_V)), F23 x1 x2 x3 x4 x5 V = some r → Rn e 123 23 [(0, .ref 0), (1, .int x1), (2, .int x2), (3, .int x3), (4, .int x4), (5, .int x5)] [] (SH ++ X) V (some (.int r.1)) (SH ++ X) r.2) (x1 : Int32) (x2 : Int32) (x3 : Int32) (x4 : Int32) (x5 : Int32) (V : ai_V) (r : (Int32 × ai_V)) (h : d_X_thirst_69 F23 x1 x2 x3 x4 x5 V = some r) : Rn e 123 69 [(0, .ref 0), (1, .int x1), (2, .int x2), (3, .int x3), (4, .int x4), (5, .int x5)] [] (SH ++ X) V (some (.int r.1)) (SH ++ X) r.2 := by
  rw [d_X_thirst_69] at h
  refine rn_go 2 (pc' := 23) (l' := [(5, .int (x5 + (1 : Int32))), (0, .ref 0), (1, .int x1), (2, .int x2), (3, .int x3), (4, .int x4)]) (st' := []) (S1 := (SH ++ X)) (V1 := V) rfl ?_
  exact rn_sub [1, 2, 3, 4, 5, 0] rfl rfl (hF23 x1 x2 x3 x4 (x5 + (1 : Int32)) V _ h)
def d_X_thirst_23  : Nat → Int32 → Int32 → Int32 → Int32 → Int32 → ai_V → Option (Int32 × ai_V)
  | 0, _, _, _, _, _, _ => none
  | n + 1, x1, x2, x3, x4, x5, V => if x1 ≤ x5 then ((d_Row_tellTwo (x4).toInt64 (x3).toInt64 V).bind fun q1 => (some (x2, q1))) else ((d_House_wantsIn (((gi V 16 0) + x5) - ((gi V 16 0) + x5) / (12 : Int32) * (12 : Int32)) V).bind fun q2 => (if q2 ≤ x3 then (d_X_thirst_69 (d_X_thirst_23 n) x1 (x2 + q2) x3 x4 x5 V) else (d_X_thirst_69 (d_X_thirst_23 n) x1 (x2 + q2) q2 x5 x5 V)))
set_option maxRecDepth 20000 in
theorem t_X_thirst_23 {X : ai_S} {e : Nat} (hd : 3 ≤ e)  : ∀ (n : Nat) (x1 : Int32) (x2 : Int32) (x3 : Int32) (x4 : Int32) (x5 : Int32) (V : ai_V) (r : (Int32 × ai_V)), d_X_thirst_23  n x1 x2 x3 x4 x5 V = some r → Rn e 123 23 [(0, .ref 0), (1, .int x1), (2, .int x2), (3, .int x3), (4, .int x4), (5, .int x5)] [] (SH ++ X) V (some (.int r.1)) (SH ++ X) r.2 := by
  intro n
  induction n with
  | zero =>
    intro x1 x2 x3 x4 x5 V r h
    cases h
  | succ n ih =>
    intro x1 x2 x3 x4 x5 V r h
    rw [d_X_thirst_23] at h
    refine rn_go 2 (pc' := 26) (l' := [(0, .ref 0), (1, .int x1), (2, .int x2), (3, .int x3), (4, .int x4), (5, .int x5)]) (st' := [.int x1, .int x5]) (S1 := (SH ++ X)) (V1 := V) rfl ?_
    rcases ai_if h with ⟨hc, h⟩ | ⟨hc, h⟩
    · refine rn_brT rfl rfl rfl rfl hc ?_
      refine rn_go 6 (pc' := 84) (l' := [(0, .ref 0), (1, .int x1), (2, .int x2), (3, .int x3), (4, .int x4), (5, .int x5)]) (st' := [.long (x3).toInt64, .long (x4).toInt64, .ref 22]) (S1 := (SH ++ X)) (V1 := V) rfl ?_
      obtain ⟨q1, hq1, h⟩ := ai_bd h
      refine rn_call rfl rfl rfl rfl rfl rfl (by omega) (t_Row_tellTwo (by omega) hq1) ?_
      refine rn_go 1 (pc' := 88) (l' := [(0, .ref 0), (1, .int x1), (2, .int x2), (3, .int x3), (4, .int x4), (5, .int x5)]) (st' := [.int x2]) (S1 := (SH ++ X)) (V1 := q1) rfl ?_
      obtain rfl := Option.some.inj h
      exact rn_ret rfl rfl rfl
    · refine rn_brF rfl rfl rfl rfl hc ?_
      refine rn_go 8 (pc' := 45) (l' := [(0, .ref 0), (1, .int x1), (2, .int x2), (3, .int x3), (4, .int x4), (5, .int x5)]) (st' := [.int (12 : Int32), .int ((gi V 16 0) + x5), .ref 3]) (S1 := (SH ++ X)) (V1 := V) rfl ?_
      refine rg_irem rfl (by decide) ?_
      obtain ⟨q2, hq2, h⟩ := ai_bd h
      refine rn_call rfl rfl rfl rfl rfl rfl (by omega) (t_House_wantsIn (by omega) hq2) ?_
      refine rn_go 7 (pc' := 59) (l' := [(2, .int (x2 + q2)), (6, .int q2), (0, .ref 0), (1, .int x1), (3, .int x3), (4, .int x4), (5, .int x5)]) (st' := [.int x3, .int q2]) (S1 := (SH ++ X)) (V1 := V) rfl ?_
      rcases ai_if h with ⟨hc, h⟩ | ⟨hc, h⟩
      · refine rn_brT rfl rfl rfl rfl hc ?_
        exact rn_sub [2, 3, 0, 4, 5, 6] rfl rfl (t_X_thirst_69 (X := X) hd (d_X_thirst_23 n) (ih) x1 (x2 + q2) x3 x4 x5 V _ h)
      · refine rn_brF rfl rfl rfl rfl hc ?_
        refine rn_go 4 (pc' := 69) (l' := [(4, .int x5), (3, .int q2), (2, .int (x2 + q2)), (6, .int q2), (0, .ref 0), (1, .int x1), (5, .int x5)]) (st' := []) (S1 := (SH ++ X)) (V1 := V) rfl ?_
        exact rn_sub [4, 5, 2, 1, 0, 6] rfl rfl (t_X_thirst_69 (X := X) hd (d_X_thirst_23 n) (ih) x1 (x2 + q2) q2 x5 x5 V _ h)
def d_X_thirst (x1 : Int32) (V : ai_V) : Option (Int32 × ai_V) :=
  if x1 < (1 : Int32) then (some ((-1 : Int32), V)) else (if x1 ≤ (60 : Int32) then (d_X_thirst_23 ai_N x1 (0 : Int32) (-1 : Int32) (0 : Int32) (0 : Int32) V) else (some ((-1 : Int32), V)))
set_option maxRecDepth 20000 in
theorem t_X_thirst {X : ai_S} {e : Nat} (hd : 3 ≤ e) {x1 : Int32} {V : ai_V} {r : (Int32 × ai_V)} (h : d_X_thirst x1 V = some r) : Rn e 123 0 (lv_args 0 [.ref 0, .int x1]) [] (SH ++ X) V (some (.int r.1)) (SH ++ X) r.2 := by
  rw [d_X_thirst] at h
  refine rn_go 2 (pc' := 2) (l' := [(0, .ref 0), (1, .int x1)]) (st' := [.int (1 : Int32), .int x1]) (S1 := (SH ++ X)) (V1 := V) rfl ?_
  rcases ai_if h with ⟨hc, h⟩ | ⟨hc, h⟩
  · refine rn_brT rfl rfl rfl rfl hc ?_
    refine rn_go 1 (pc' := 12) (l' := [(0, .ref 0), (1, .int x1)]) (st' := [.int (-1 : Int32)]) (S1 := (SH ++ X)) (V1 := V) rfl ?_
    obtain rfl := Option.some.inj h
    exact rn_ret rfl rfl rfl
  · refine rn_brF rfl rfl rfl rfl hc ?_
    refine rn_go 2 (pc' := 8) (l' := [(0, .ref 0), (1, .int x1)]) (st' := [.int (60 : Int32), .int x1]) (S1 := (SH ++ X)) (V1 := V) rfl ?_
    rcases ai_if h with ⟨hc, h⟩ | ⟨hc, h⟩
    · refine rn_brT rfl rfl rfl rfl hc ?_
      refine rn_go 8 (pc' := 23) (l' := [(5, .int (0 : Int32)), (4, .int (0 : Int32)), (3, .int (-1 : Int32)), (2, .int (0 : Int32)), (0, .ref 0), (1, .int x1)]) (st' := []) (S1 := (SH ++ X)) (V1 := V) rfl ?_
      exact rn_sub [4, 5, 3, 2, 1, 0] rfl rfl (t_X_thirst_23 (X := X) hd ai_N x1 (0 : Int32) (-1 : Int32) (0 : Int32) (0 : Int32) V _ h)
    · refine rn_brF rfl rfl rfl rfl hc ?_
      refine rn_go 1 (pc' := 12) (l' := [(0, .ref 0), (1, .int x1)]) (st' := [.int (-1 : Int32)]) (S1 := (SH ++ X)) (V1 := V) rfl ?_
      obtain rfl := Option.some.inj h
      exact rn_ret rfl rfl rfl
-- RentByTheWheel.bath(II)I (0, None, None)
def d_X_bath_36  : Nat → Int32 → Int32 → Int32 → Int32 → ai_V → Option (Int32 × ai_V)
  | 0, _, _, _, _, _ => none
  | n + 1, x1, x2, x4, x5, V => if (60 : Int32) < x5 then (some ((-2 : Int32), V)) else ((d_Wheel_pass_15_19 x1 (-1 : Int32) V).bind fun q1 => (if (gi q1 19 1) < x2 then (d_X_bath_36 n x1 x2 (x4 + (gi q1 15 5)) (x5 + (1 : Int32)) q1) else ((d_Row_tellOne (((x4 + (gi q1 15 5))).toInt64) q1).bind fun q2 => (some (x5, q2)))))
set_option maxRecDepth 20000 in
theorem t_X_bath_36 {X : ai_S} {e : Nat} (hd : 4 ≤ e)  : ∀ (n : Nat) (x1 : Int32) (x2 : Int32) (x4 : Int32) (x5 : Int32) (V : ai_V) (r : (Int32 × ai_V)), d_X_bath_36  n x1 x2 x4 x5 V = some r → Rn e 124 36 [(0, .ref 0), (1, .int x1), (2, .int x2), (3, .ref 19), (4, .int x4), (5, .int x5)] [] (SH ++ X) V (some (.int r.1)) (SH ++ X) r.2 := by
  intro n
  induction n with
  | zero =>
    intro x1 x2 x4 x5 V r h
    cases h
  | succ n ih =>
    intro x1 x2 x4 x5 V r h
    rw [d_X_bath_36] at h
    refine rn_go 2 (pc' := 40) (l' := [(0, .ref 0), (1, .int x1), (2, .int x2), (3, .ref 19), (4, .int x4), (5, .int x5)]) (st' := [.int (60 : Int32), .int x5]) (S1 := (SH ++ X)) (V1 := V) rfl ?_
    rcases ai_if h with ⟨hc, h⟩ | ⟨hc, h⟩
    · refine rn_brT rfl rfl rfl rfl hc ?_
      refine rn_go 1 (pc' := 94) (l' := [(0, .ref 0), (1, .int x1), (2, .int x2), (3, .ref 19), (4, .int x4), (5, .int x5)]) (st' := [.int (-2 : Int32)]) (S1 := (SH ++ X)) (V1 := V) rfl ?_
      obtain rfl := Option.some.inj h
      exact rn_ret rfl rfl rfl
    · refine rn_brF rfl rfl rfl rfl hc ?_
      refine rn_go 5 (pc' := 50) (l' := [(0, .ref 0), (1, .int x1), (2, .int x2), (3, .ref 19), (4, .int x4), (5, .int x5)]) (st' := [.int (-1 : Int32), .int x1, .ref 19, .ref 15]) (S1 := (SH ++ X)) (V1 := V) rfl ?_
      obtain ⟨q1, hq1, h⟩ := ai_bd h
      refine rn_call rfl rfl rfl rfl rfl rfl (by omega) (t_Wheel_pass_15_19 (by omega) hq1) ?_
      refine rn_go 9 (pc' := 70) (l' := [(4, .int (x4 + (gi q1 15 5))), (0, .ref 0), (1, .int x1), (2, .int x2), (3, .ref 19), (5, .int x5)]) (st' := [.int x2, .int (gi q1 19 1)]) (S1 := (SH ++ X)) (V1 := q1) rfl ?_
      rcases ai_if h with ⟨hc, h⟩ | ⟨hc, h⟩
      · refine rn_brT rfl rfl rfl rfl hc ?_
        refine rn_go 2 (pc' := 36) (l' := [(5, .int (x5 + (1 : Int32))), (4, .int (x4 + (gi q1 15 5))), (0, .ref 0), (1, .int x1), (2, .int x2), (3, .ref 19)]) (st' := []) (S1 := (SH ++ X)) (V1 := q1) rfl ?_
        exact rn_sub [2, 3, 4, 5, 1, 0] rfl rfl (ih x1 x2 (x4 + (gi q1 15 5)) (x5 + (1 : Int32)) q1 _ h)
      · refine rn_brF rfl rfl rfl rfl hc ?_
        refine rn_go 4 (pc' := 80) (l' := [(4, .int (x4 + (gi q1 15 5))), (0, .ref 0), (1, .int x1), (2, .int x2), (3, .ref 19), (5, .int x5)]) (st' := [.long ((x4 + (gi q1 15 5))).toInt64, .ref 22]) (S1 := (SH ++ X)) (V1 := q1) rfl ?_
        obtain ⟨q2, hq2, h⟩ := ai_bd h
        refine rn_call rfl rfl rfl rfl rfl rfl (by omega) (t_Row_tellOne (by omega) hq2) ?_
        refine rn_go 1 (pc' := 85) (l' := [(4, .int (x4 + (gi q1 15 5))), (0, .ref 0), (1, .int x1), (2, .int x2), (3, .ref 19), (5, .int x5)]) (st' := [.int x5]) (S1 := (SH ++ X)) (V1 := q2) rfl ?_
        obtain rfl := Option.some.inj h
        exact rn_ret rfl rfl rfl
def d_X_bath (x1 : Int32) (x2 : Int32) (V : ai_V) : Option (Int32 × ai_V) :=
  (d_House_has x1 V).bind fun q3 => (if q3 = 0 then (some ((-1 : Int32), V)) else (if x2 < (1 : Int32) then (some ((-1 : Int32), V)) else (if x2 ≤ (999 : Int32) then ((d_X_asked  V).bind fun q4 => (d_X_bath_36 ai_N x1 x2 (0 : Int32) (1 : Int32) q4)) else (some ((-1 : Int32), V)))))
set_option maxRecDepth 20000 in
theorem t_X_bath {X : ai_S} {e : Nat} (hd : 4 ≤ e) {x1 : Int32} {x2 : Int32} {V : ai_V} {r : (Int32 × ai_V)} (h : d_X_bath x1 x2 V = some r) : Rn e 124 0 (lv_args 0 [.ref 0, .int x1, .int x2]) [] (SH ++ X) V (some (.int r.1)) (SH ++ X) r.2 := by
  rw [d_X_bath] at h
  refine rn_go 3 (pc' := 5) (l' := [(0, .ref 0), (1, .int x1), (2, .int x2)]) (st' := [.int x1, .ref 3]) (S1 := (SH ++ X)) (V1 := V) rfl ?_
  obtain ⟨q3, hq3, h⟩ := ai_bd h
  refine rn_call rfl rfl rfl rfl rfl rfl (by omega) (t_House_has (by omega) hq3) ?_
  rcases ai_if h with ⟨hc, h⟩ | ⟨hc, h⟩
  · refine rn_brT rfl rfl rfl rfl hc ?_
    refine rn_go 1 (pc' := 24) (l' := [(0, .ref 0), (1, .int x1), (2, .int x2)]) (st' := [.int (-1 : Int32)]) (S1 := (SH ++ X)) (V1 := V) rfl ?_
    obtain rfl := Option.some.inj h
    exact rn_ret rfl rfl rfl
  · refine rn_brF rfl rfl rfl rfl hc ?_
    refine rn_go 2 (pc' := 13) (l' := [(0, .ref 0), (1, .int x1), (2, .int x2)]) (st' := [.int (1 : Int32), .int x2]) (S1 := (SH ++ X)) (V1 := V) rfl ?_
    rcases ai_if h with ⟨hc, h⟩ | ⟨hc, h⟩
    · refine rn_brT rfl rfl rfl rfl hc ?_
      refine rn_go 1 (pc' := 24) (l' := [(0, .ref 0), (1, .int x1), (2, .int x2)]) (st' := [.int (-1 : Int32)]) (S1 := (SH ++ X)) (V1 := V) rfl ?_
      obtain rfl := Option.some.inj h
      exact rn_ret rfl rfl rfl
    · refine rn_brF rfl rfl rfl rfl hc ?_
      refine rn_go 2 (pc' := 20) (l' := [(0, .ref 0), (1, .int x1), (2, .int x2)]) (st' := [.int (999 : Int32), .int x2]) (S1 := (SH ++ X)) (V1 := V) rfl ?_
      rcases ai_if h with ⟨hc, h⟩ | ⟨hc, h⟩
      · refine rn_brT rfl rfl rfl rfl hc ?_
        refine rn_go 1 (pc' := 26) (l' := [(0, .ref 0), (1, .int x1), (2, .int x2)]) (st' := [.ref 0]) (S1 := (SH ++ X)) (V1 := V) rfl ?_
        obtain ⟨q4, hq4, h⟩ := ai_bd h
        refine rn_call rfl rfl rfl rfl rfl rfl (by omega) (t_X_asked (by omega) hq4) ?_
        refine rn_go 5 (pc' := 36) (l' := [(5, .int (1 : Int32)), (4, .int (0 : Int32)), (3, .ref 19), (0, .ref 0), (1, .int x1), (2, .int x2)]) (st' := []) (S1 := (SH ++ X)) (V1 := q4) rfl ?_
        exact rn_sub [3, 4, 5, 2, 1, 0] rfl rfl (t_X_bath_36 (X := X) hd ai_N x1 x2 (0 : Int32) (1 : Int32) q4 _ h)
      · refine rn_brF rfl rfl rfl rfl hc ?_
        refine rn_go 1 (pc' := 24) (l' := [(0, .ref 0), (1, .int x1), (2, .int x2)]) (st' := [.int (-1 : Int32)]) (S1 := (SH ++ X)) (V1 := V) rfl ?_
        obtain rfl := Option.some.inj h
        exact rn_ret rfl rfl rfl
-- RentByTheWheel$House.treadsForDue(I)I (3, None)
def d_House_treadsForDue_4  : Nat → Int32 → Int32 → Int32 → ai_V → Option Int32
  | 0, _, _, _, _ => none
  | n + 1, x1, x2, x3, V => if (gi V 3 0) ≤ x3 then (some x2) else ((d_House_chargeOf x3 x1 V).bind fun q1 => ((d_House_treadsFor x3 q1 V).bind fun q2 => (d_House_treadsForDue_4 n x1 (x2 + q2) (x3 + (1 : Int32)) V)))
set_option maxRecDepth 20000 in
theorem t_House_treadsForDue_4 {X : ai_S} {e : Nat} (hd : 2 ≤ e)  : ∀ (n : Nat) (x1 : Int32) (x2 : Int32) (x3 : Int32) (V : ai_V) (r : Int32), d_House_treadsForDue_4  n x1 x2 x3 V = some r → Rn e 29 4 [(0, .ref 3), (1, .int x1), (2, .int x2), (3, .int x3)] [] (SH ++ X) V (some (.int r)) (SH ++ X) V := by
  intro n
  induction n with
  | zero =>
    intro x1 x2 x3 V r h
    cases h
  | succ n ih =>
    intro x1 x2 x3 V r h
    rw [d_House_treadsForDue_4] at h
    refine rn_go 3 (pc' := 9) (l' := [(0, .ref 3), (1, .int x1), (2, .int x2), (3, .int x3)]) (st' := [.int (gi V 3 0), .int x3]) (S1 := (SH ++ X)) (V1 := V) rfl ?_
    rcases ai_if h with ⟨hc, h⟩ | ⟨hc, h⟩
    · refine rn_brT rfl rfl rfl rfl hc ?_
      refine rn_go 1 (pc' := 33) (l' := [(0, .ref 3), (1, .int x1), (2, .int x2), (3, .int x3)]) (st' := [.int x2]) (S1 := (SH ++ X)) (V1 := V) rfl ?_
      obtain rfl := Option.some.inj h
      exact rn_ret rfl rfl rfl
    · refine rn_brF rfl rfl rfl rfl hc ?_
      refine rn_go 6 (pc' := 18) (l' := [(0, .ref 3), (1, .int x1), (2, .int x2), (3, .int x3)]) (st' := [.int x1, .int x3, .ref 3, .int x3, .ref 3, .int x2]) (S1 := (SH ++ X)) (V1 := V) rfl ?_
      obtain ⟨q1, hq1, h⟩ := ai_bd h
      refine rn_call rfl rfl rfl rfl rfl rfl (by omega) (t_House_chargeOf (by omega) hq1) ?_
      obtain ⟨q2, hq2, h⟩ := ai_bd h
      refine rn_call rfl rfl rfl rfl rfl rfl (by omega) (t_House_treadsFor (by omega) hq2) ?_
      refine rn_go 4 (pc' := 4) (l' := [(3, .int (x3 + (1 : Int32))), (2, .int (x2 + q2)), (0, .ref 3), (1, .int x1)]) (st' := []) (S1 := (SH ++ X)) (V1 := V) rfl ?_
      exact rn_sub [2, 3, 1, 0] rfl rfl (ih x1 (x2 + q2) (x3 + (1 : Int32)) V _ h)
def d_House_treadsForDue (x1 : Int32) (V : ai_V) : Option Int32 :=
  d_House_treadsForDue_4 ai_N x1 (0 : Int32) (0 : Int32) V
set_option maxRecDepth 20000 in
theorem t_House_treadsForDue {X : ai_S} {e : Nat} (hd : 2 ≤ e) {x1 : Int32} {V : ai_V} {r : Int32} (h : d_House_treadsForDue x1 V = some r) : Rn e 29 0 (lv_args 0 [.ref 3, .int x1]) [] (SH ++ X) V (some (.int r)) (SH ++ X) V := by
  rw [d_House_treadsForDue] at h
  refine rn_go 4 (pc' := 4) (l' := [(3, .int (0 : Int32)), (2, .int (0 : Int32)), (0, .ref 3), (1, .int x1)]) (st' := []) (S1 := (SH ++ X)) (V1 := V) rfl ?_
  exact rn_sub [2, 3, 1, 0] rfl rfl (t_House_treadsForDue_4 (X := X) hd ai_N x1 (0 : Int32) (0 : Int32) V _ h)
-- RentByTheWheel.shares()I (0,)
def d_X_shares_69 (F11 : Int32 → Int32 → ai_V → Option (Int32 × ai_V)) (x2 : Int32) (s0 : Int32) (s1 : Int32) (V : ai_V) : Option (Int32 × ai_V) :=
  F11 (s1 ||| s0) (x2 + (1 : Int32)) V
set_option maxRecDepth 20000 in
theorem t_X_shares_69 {X : ai_S} {e : Nat} (hd : 3 ≤ e) (F11 : Int32 → Int32 → ai_V → Option (Int32 × ai_V)) (hF11 : ∀ (x1 : Int32) (x2 : Int32) (V : ai_V) (r : (Int32 × ai_V)), F11 x1 x2 V = some r → Rn e 125 11 [(0, .ref 0), (1, .int x1), (2, .int x2)] [] (SH ++ X) V (some (.int r.1)) (SH ++ X) r.2) (x2 : Int32) (s0 : Int32) (s1 : Int32) (V : ai_V) (r : (Int32 × ai_V)) (h : d_X_shares_69 F11 x2 s0 s1 V = some r) : Rn e 125 69 [(0, .ref 0), (2, .int x2)] [.int s0, .int s1] (SH ++ X) V (some (.int r.1)) (SH ++ X) r.2 := by
  rw [d_X_shares_69] at h
  refine rn_go 4 (pc' := 11) (l' := [(2, .int (x2 + (1 : Int32))), (1, .int (s1 ||| s0)), (0, .ref 0)]) (st' := []) (S1 := (SH ++ X)) (V1 := V) rfl ?_
  exact rn_sub [2, 1, 0] rfl rfl (hF11 (s1 ||| s0) (x2 + (1 : Int32)) V _ h)
def d_X_shares_11  : Nat → Int32 → Int32 → ai_V → Option (Int32 × ai_V)
  | 0, _, _, _ => none
  | n + 1, x1, x2, V => if (gi V 3 0) ≤ x2 then ((d_Row_add (x1).toInt64 V).bind fun q1 => ((d_House_treadsForDue (gi q1 3 1) q1).bind fun q2 => (some (q2, q1)))) else ((d_House_chargeOf x2 (gi V 3 1) V).bind fun q3 => ((d_House_treadsFor x2 q3 V).bind fun q4 => ((d_Row_add (q4).toInt64 V).bind fun q5 => (if q4 ≤ (12 : Int32) then (d_X_shares_69 (d_X_shares_11 n) x2 (0 : Int32) x1 q5) else (d_X_shares_69 (d_X_shares_11 n) x2 ((1 : Int32) <<< (x2 &&& 31)) x1 q5)))))
set_option maxRecDepth 20000 in
theorem t_X_shares_11 {X : ai_S} {e : Nat} (hd : 3 ≤ e)  : ∀ (n : Nat) (x1 : Int32) (x2 : Int32) (V : ai_V) (r : (Int32 × ai_V)), d_X_shares_11  n x1 x2 V = some r → Rn e 125 11 [(0, .ref 0), (1, .int x1), (2, .int x2)] [] (SH ++ X) V (some (.int r.1)) (SH ++ X) r.2 := by
  intro n
  induction n with
  | zero =>
    intro x1 x2 V r h
    cases h
  | succ n ih =>
    intro x1 x2 V r h
    rw [d_X_shares_11] at h
    refine rn_go 4 (pc' := 19) (l' := [(0, .ref 0), (1, .int x1), (2, .int x2)]) (st' := [.int (gi V 3 0), .int x2]) (S1 := (SH ++ X)) (V1 := V) rfl ?_
    rcases ai_if h with ⟨hc, h⟩ | ⟨hc, h⟩
    · refine rn_brT rfl rfl rfl rfl hc ?_
      refine rn_go 4 (pc' := 83) (l' := [(0, .ref 0), (1, .int x1), (2, .int x2)]) (st' := [.long (x1).toInt64, .ref 22]) (S1 := (SH ++ X)) (V1 := V) rfl ?_
      obtain ⟨q1, hq1, h⟩ := ai_bd h
      refine rn_call rfl rfl rfl rfl rfl rfl (by omega) (t_Row_add (by omega) hq1) ?_
      refine rn_go 5 (pc' := 97) (l' := [(0, .ref 0), (1, .int x1), (2, .int x2)]) (st' := [.int (gi q1 3 1), .ref 3]) (S1 := (SH ++ X)) (V1 := q1) rfl ?_
      obtain ⟨q2, hq2, h⟩ := ai_bd h
      refine rn_call rfl rfl rfl rfl rfl rfl (by omega) (t_House_treadsForDue (by omega) hq2) ?_
      obtain rfl := Option.some.inj h
      exact rn_ret rfl rfl rfl
    · refine rn_brF rfl rfl rfl rfl hc ?_
      refine rn_go 9 (pc' := 39) (l' := [(0, .ref 0), (1, .int x1), (2, .int x2)]) (st' := [.int (gi V 3 1), .int x2, .ref 3, .int x2, .ref 3]) (S1 := (SH ++ X)) (V1 := V) rfl ?_
      obtain ⟨q3, hq3, h⟩ := ai_bd h
      refine rn_call rfl rfl rfl rfl rfl rfl (by omega) (t_House_chargeOf (by omega) hq3) ?_
      obtain ⟨q4, hq4, h⟩ := ai_bd h
      refine rn_call rfl rfl rfl rfl rfl rfl (by omega) (t_House_treadsFor (by omega) hq4) ?_
      refine rn_go 5 (pc' := 52) (l' := [(3, .int q4), (0, .ref 0), (1, .int x1), (2, .int x2)]) (st' := [.long (q4).toInt64, .ref 22]) (S1 := (SH ++ X)) (V1 := V) rfl ?_
      obtain ⟨q5, hq5, h⟩ := ai_bd h
      refine rn_call rfl rfl rfl rfl rfl rfl (by omega) (t_Row_add (by omega) hq5) ?_
      refine rn_go 3 (pc' := 59) (l' := [(3, .int q4), (0, .ref 0), (1, .int x1), (2, .int x2)]) (st' := [.int (12 : Int32), .int q4, .int x1]) (S1 := (SH ++ X)) (V1 := q5) rfl ?_
      rcases ai_if h with ⟨hc, h⟩ | ⟨hc, h⟩
      · refine rn_brT rfl rfl rfl rfl hc ?_
        refine rn_go 1 (pc' := 69) (l' := [(3, .int q4), (0, .ref 0), (1, .int x1), (2, .int x2)]) (st' := [.int (0 : Int32), .int x1]) (S1 := (SH ++ X)) (V1 := q5) rfl ?_
        exact rn_sub [1, 3] rfl rfl (t_X_shares_69 (X := X) hd (d_X_shares_11 n) (ih) x2 (0 : Int32) x1 q5 _ h)
      · refine rn_brF rfl rfl rfl rfl hc ?_
        refine rn_go 4 (pc' := 69) (l' := [(3, .int q4), (0, .ref 0), (1, .int x1), (2, .int x2)]) (st' := [.int ((1 : Int32) <<< (x2 &&& 31)), .int x1]) (S1 := (SH ++ X)) (V1 := q5) rfl ?_
        exact rn_sub [1, 3] rfl rfl (t_X_shares_69 (X := X) hd (d_X_shares_11 n) (ih) x2 ((1 : Int32) <<< (x2 &&& 31)) x1 q5 _ h)
def d_X_shares  (V : ai_V) : Option (Int32 × ai_V) :=
  (d_Row_clear  V).bind fun q6 => (d_X_shares_11 ai_N (0 : Int32) (0 : Int32) q6)
set_option maxRecDepth 20000 in
theorem t_X_shares {X : ai_S} {e : Nat} (hd : 3 ≤ e)  {V : ai_V} {r : (Int32 × ai_V)} (h : d_X_shares  V = some r) : Rn e 125 0 (lv_args 0 [.ref 0]) [] (SH ++ X) V (some (.int r.1)) (SH ++ X) r.2 := by
  rw [d_X_shares] at h
  refine rn_go 2 (pc' := 4) (l' := [(0, .ref 0)]) (st' := [.ref 22]) (S1 := (SH ++ X)) (V1 := V) rfl ?_
  obtain ⟨q6, hq6, h⟩ := ai_bd h
  refine rn_call rfl rfl rfl rfl rfl rfl (by omega) (t_Row_clear (by omega) hq6) ?_
  refine rn_go 4 (pc' := 11) (l' := [(2, .int (0 : Int32)), (1, .int (0 : Int32)), (0, .ref 0)]) (st' := []) (S1 := (SH ++ X)) (V1 := q6) rfl ?_
  exact rn_sub [2, 1, 0] rfl rfl (t_X_shares_11 (X := X) hd ai_N (0 : Int32) (0 : Int32) q6 _ h)
-- RentByTheWheel.fairdue()I (0,)
def d_X_fairdue_3  : Nat → Int32 → ai_V → Option (Int32 × ai_V)
  | 0, _, _ => none
  | n + 1, x1, V => if x1 ≤ 0 then ((d_Row_tellOne (Int64.ofNat 0) V).bind fun q1 => (some ((0 : Int32), q1))) else ((d_House_treadsForDue x1 V).bind fun q2 => (if (12 : Int32) < q2 then (d_X_fairdue_3 n (x1 + (-1 : Int32)) V) else ((d_Row_tellOne (q2).toInt64 V).bind fun q3 => (some (x1, q3)))))
set_option maxRecDepth 20000 in
theorem t_X_fairdue_3 {X : ai_S} {e : Nat} (hd : 3 ≤ e)  : ∀ (n : Nat) (x1 : Int32) (V : ai_V) (r : (Int32 × ai_V)), d_X_fairdue_3  n x1 V = some r → Rn e 126 3 [(0, .ref 0), (1, .int x1)] [] (SH ++ X) V (some (.int r.1)) (SH ++ X) r.2 := by
  intro n
  induction n with
  | zero =>
    intro x1 V r h
    cases h
  | succ n ih =>
    intro x1 V r h
    rw [d_X_fairdue_3] at h
    refine rn_go 1 (pc' := 4) (l' := [(0, .ref 0), (1, .int x1)]) (st' := [.int x1]) (S1 := (SH ++ X)) (V1 := V) rfl ?_
    rcases ai_if h with ⟨hc, h⟩ | ⟨hc, h⟩
    · refine rn_brT rfl rfl rfl rfl hc ?_
      refine rn_go 3 (pc' := 44) (l' := [(0, .ref 0), (1, .int x1)]) (st' := [.long (Int64.ofNat 0), .ref 22]) (S1 := (SH ++ X)) (V1 := V) rfl ?_
      obtain ⟨q1, hq1, h⟩ := ai_bd h
      refine rn_call rfl rfl rfl rfl rfl rfl (by omega) (t_Row_tellOne (by omega) hq1) ?_
      refine rn_go 1 (pc' := 48) (l' := [(0, .ref 0), (1, .int x1)]) (st' := [.int (0 : Int32)]) (S1 := (SH ++ X)) (V1 := q1) rfl ?_
      obtain rfl := Option.some.inj h
      exact rn_ret rfl rfl rfl
    · refine rn_brF rfl rfl rfl rfl hc ?_
      refine rn_go 3 (pc' := 12) (l' := [(0, .ref 0), (1, .int x1)]) (st' := [.int x1, .ref 3]) (S1 := (SH ++ X)) (V1 := V) rfl ?_
      obtain ⟨q2, hq2, h⟩ := ai_bd h
      refine rn_call rfl rfl rfl rfl rfl rfl (by omega) (t_House_treadsForDue (by omega) hq2) ?_
      refine rn_go 3 (pc' := 19) (l' := [(2, .int q2), (0, .ref 0), (1, .int x1)]) (st' := [.int (12 : Int32), .int q2]) (S1 := (SH ++ X)) (V1 := V) rfl ?_
      rcases ai_if h with ⟨hc, h⟩ | ⟨hc, h⟩
      · refine rn_brT rfl rfl rfl rfl hc ?_
        refine rn_go 2 (pc' := 3) (l' := [(1, .int (x1 + (-1 : Int32))), (2, .int q2), (0, .ref 0)]) (st' := []) (S1 := (SH ++ X)) (V1 := V) rfl ?_
        exact rn_sub [2, 0] rfl rfl (ih (x1 + (-1 : Int32)) V _ h)
      · refine rn_brF rfl rfl rfl rfl hc ?_
        refine rn_go 4 (pc' := 28) (l' := [(2, .int q2), (0, .ref 0), (1, .int x1)]) (st' := [.long (q2).toInt64, .ref 22]) (S1 := (SH ++ X)) (V1 := V) rfl ?_
        obtain ⟨q3, hq3, h⟩ := ai_bd h
        refine rn_call rfl rfl rfl rfl rfl rfl (by omega) (t_Row_tellOne (by omega) hq3) ?_
        refine rn_go 1 (pc' := 32) (l' := [(2, .int q2), (0, .ref 0), (1, .int x1)]) (st' := [.int x1]) (S1 := (SH ++ X)) (V1 := q3) rfl ?_
        obtain rfl := Option.some.inj h
        exact rn_ret rfl rfl rfl
def d_X_fairdue  (V : ai_V) : Option (Int32 × ai_V) :=
  d_X_fairdue_3 ai_N (9 : Int32) V
set_option maxRecDepth 20000 in
theorem t_X_fairdue {X : ai_S} {e : Nat} (hd : 3 ≤ e)  {V : ai_V} {r : (Int32 × ai_V)} (h : d_X_fairdue  V = some r) : Rn e 126 0 (lv_args 0 [.ref 0]) [] (SH ++ X) V (some (.int r.1)) (SH ++ X) r.2 := by
  rw [d_X_fairdue] at h
  refine rn_go 2 (pc' := 3) (l' := [(1, .int (9 : Int32)), (0, .ref 0)]) (st' := []) (S1 := (SH ++ X)) (V1 := V) rfl ?_
  exact rn_sub [1, 0] rfl rfl (t_X_fairdue_3 (X := X) hd ai_N (9 : Int32) V _ h)
-- RentByTheWheel.ahead(I)I (0, None)
def d_X_ahead_42  : Nat → Int32 → Int32 → Int32 → ai_V → Option Int32
  | 0, _, _, _, _ => none
  | n + 1, x2, x3, x4, V => if (99 : Int32) ≤ x4 then (some x4) else (if 0 < x2 then (some x4) else (if 0 < (x2 + x3) then (some x4) else (d_X_ahead_42 n (x2 + x3) x3 (x4 + (1 : Int32)) V)))
set_option maxRecDepth 20000 in
theorem t_X_ahead_42 {X : ai_S} {e : Nat} (hd : 1 ≤ e)  : ∀ (n : Nat) (x2 : Int32) (x3 : Int32) (x4 : Int32) (V : ai_V) (r : Int32), d_X_ahead_42  n x2 x3 x4 V = some r → Rn e 127 42 [(2, .int x2), (3, .int x3), (4, .int x4)] [] (SH ++ X) V (some (.int r)) (SH ++ X) V := by
  intro n
  induction n with
  | zero =>
    intro x2 x3 x4 V r h
    cases h
  | succ n ih =>
    intro x2 x3 x4 V r h
    rw [d_X_ahead_42] at h
    refine rn_go 2 (pc' := 46) (l' := [(2, .int x2), (3, .int x3), (4, .int x4)]) (st' := [.int (99 : Int32), .int x4]) (S1 := (SH ++ X)) (V1 := V) rfl ?_
    rcases ai_if h with ⟨hc, h⟩ | ⟨hc, h⟩
    · refine rn_brT rfl rfl rfl rfl hc ?_
      refine rn_go 1 (pc' := 71) (l' := [(2, .int x2), (3, .int x3), (4, .int x4)]) (st' := [.int x4]) (S1 := (SH ++ X)) (V1 := V) rfl ?_
      obtain rfl := Option.some.inj h
      exact rn_ret rfl rfl rfl
    · refine rn_brF rfl rfl rfl rfl hc ?_
      refine rn_go 1 (pc' := 50) (l' := [(2, .int x2), (3, .int x3), (4, .int x4)]) (st' := [.int x2]) (S1 := (SH ++ X)) (V1 := V) rfl ?_
      rcases ai_if h with ⟨hc, h⟩ | ⟨hc, h⟩
      · refine rn_brT rfl rfl rfl rfl hc ?_
        refine rn_go 1 (pc' := 71) (l' := [(2, .int x2), (3, .int x3), (4, .int x4)]) (st' := [.int x4]) (S1 := (SH ++ X)) (V1 := V) rfl ?_
        obtain rfl := Option.some.inj h
        exact rn_ret rfl rfl rfl
      · refine rn_brF rfl rfl rfl rfl hc ?_
        refine rn_go 3 (pc' := 56) (l' := [(2, .int x2), (3, .int x3), (4, .int x4)]) (st' := [.int (x2 + x3)]) (S1 := (SH ++ X)) (V1 := V) rfl ?_
        rcases ai_if h with ⟨hc, h⟩ | ⟨hc, h⟩
        · refine rn_brT rfl rfl rfl rfl hc ?_
          refine rn_go 1 (pc' := 71) (l' := [(2, .int x2), (3, .int x3), (4, .int x4)]) (st' := [.int x4]) (S1 := (SH ++ X)) (V1 := V) rfl ?_
          obtain rfl := Option.some.inj h
          exact rn_ret rfl rfl rfl
        · refine rn_brF rfl rfl rfl rfl hc ?_
          refine rn_go 6 (pc' := 42) (l' := [(4, .int (x4 + (1 : Int32))), (2, .int (x2 + x3)), (3, .int x3)]) (st' := []) (S1 := (SH ++ X)) (V1 := V) rfl ?_
          exact rn_sub [1, 2, 0] rfl rfl (ih (x2 + x3) x3 (x4 + (1 : Int32)) V _ h)
def d_X_ahead (x1 : Int32) (V : ai_V) : Option Int32 :=
  (d_House_has x1 V).bind fun q1 => (if ¬ q1 = 0 then (if ai_in x1 6 then ((d_House_chargeOf x1 (gi V 3 1) V).bind fun q2 => (d_X_ahead_42 ai_N (ga V 17 (x1).toNatClampNeg) q2 (0 : Int32) V)) else none) else (some (-1 : Int32)))
set_option maxRecDepth 20000 in
theorem t_X_ahead {X : ai_S} {e : Nat} (hd : 1 ≤ e) {x1 : Int32} {V : ai_V} {r : Int32} (h : d_X_ahead x1 V = some r) : Rn e 127 0 (lv_args 0 [.ref 0, .int x1]) [] (SH ++ X) V (some (.int r)) (SH ++ X) V := by
  rw [d_X_ahead] at h
  refine rn_go 3 (pc' := 5) (l' := [(0, .ref 0), (1, .int x1)]) (st' := [.int x1, .ref 3]) (S1 := (SH ++ X)) (V1 := V) rfl ?_
  obtain ⟨q1, hq1, h⟩ := ai_bd h
  refine rn_call rfl rfl rfl rfl rfl rfl (by omega) (t_House_has (by omega) hq1) ?_
  rcases ai_if h with ⟨hc, h⟩ | ⟨hc, h⟩
  · refine rn_brT rfl rfl rfl rfl hc ?_
    refine rn_go 4 (pc' := 21) (l' := [(0, .ref 0), (1, .int x1)]) (st' := [.int x1, .ref 17]) (S1 := (SH ++ X)) (V1 := V) rfl ?_
    obtain ⟨hg, h⟩ := ai_gd h
    refine rg_iald (n := 6) rfl rfl hg ?_
    refine rn_go 7 (pc' := 35) (l' := [(2, .int (ga V 17 (x1).toNatClampNeg)), (0, .ref 0), (1, .int x1)]) (st' := [.int (gi V 3 1), .int x1, .ref 3]) (S1 := (SH ++ X)) (V1 := V) rfl ?_
    obtain ⟨q2, hq2, h⟩ := ai_bd h
    refine rn_call rfl rfl rfl rfl rfl rfl (by omega) (t_House_chargeOf (by omega) hq2) ?_
    refine rn_go 3 (pc' := 42) (l' := [(4, .int (0 : Int32)), (3, .int q2), (2, .int (ga V 17 (x1).toNatClampNeg)), (0, .ref 0), (1, .int x1)]) (st' := []) (S1 := (SH ++ X)) (V1 := V) rfl ?_
    exact rn_sub [2, 1, 0] rfl rfl (t_X_ahead_42 (X := X) hd ai_N (ga V 17 (x1).toNatClampNeg) q2 (0 : Int32) V _ h)
  · refine rn_brF rfl rfl rfl rfl hc ?_
    refine rn_go 1 (pc' := 12) (l' := [(0, .ref 0), (1, .int x1)]) (st' := [.int (-1 : Int32)]) (S1 := (SH ++ X)) (V1 := V) rfl ?_
    obtain rfl := Option.some.inj h
    exact rn_ret rfl rfl rfl
-- RentByTheWheel.dryByOrder([II)I (0, 9, None)
def d_X_dryByOrder_11  : Nat → Int32 → Int32 → Int32 → ai_V → Option (Int32 × ai_V)
  | 0, _, _, _, _ => none
  | n + 1, x2, x4, x5, V => if x2 ≤ x5 then (some (x4, V)) else ((d_Wheel_take_15_19_9  V).bind fun q1 => (d_X_dryByOrder_11 n x2 (x4 + (gi (si q1 19 0 ((gi q1 19 0) + (1 : Int32))) 15 5)) (x5 + (1 : Int32)) (si q1 19 0 ((gi q1 19 0) + (1 : Int32)))))
set_option maxRecDepth 20000 in
theorem t_X_dryByOrder_11 {X : ai_S} {e : Nat} (hd : 3 ≤ e)  : ∀ (n : Nat) (x2 : Int32) (x4 : Int32) (x5 : Int32) (V : ai_V) (r : (Int32 × ai_V)), d_X_dryByOrder_11  n x2 x4 x5 V = some r → Rn e 128 11 [(0, .ref 0), (1, .ref 9), (2, .int x2), (3, .ref 19), (4, .int x4), (5, .int x5)] [] (SH ++ X) V (some (.int r.1)) (SH ++ X) r.2 := by
  intro n
  induction n with
  | zero =>
    intro x2 x4 x5 V r h
    cases h
  | succ n ih =>
    intro x2 x4 x5 V r h
    rw [d_X_dryByOrder_11] at h
    refine rn_go 2 (pc' := 14) (l' := [(0, .ref 0), (1, .ref 9), (2, .int x2), (3, .ref 19), (4, .int x4), (5, .int x5)]) (st' := [.int x2, .int x5]) (S1 := (SH ++ X)) (V1 := V) rfl ?_
    rcases ai_if h with ⟨hc, h⟩ | ⟨hc, h⟩
    · refine rn_brT rfl rfl rfl rfl hc ?_
      refine rn_go 1 (pc' := 56) (l' := [(0, .ref 0), (1, .ref 9), (2, .int x2), (3, .ref 19), (4, .int x4), (5, .int x5)]) (st' := [.int x4]) (S1 := (SH ++ X)) (V1 := V) rfl ?_
      obtain rfl := Option.some.inj h
      exact rn_ret rfl rfl rfl
    · refine rn_brF rfl rfl rfl rfl hc ?_
      refine rn_go 4 (pc' := 23) (l' := [(0, .ref 0), (1, .ref 9), (2, .int x2), (3, .ref 19), (4, .int x4), (5, .int x5)]) (st' := [.ref 9, .ref 19, .ref 15]) (S1 := (SH ++ X)) (V1 := V) rfl ?_
      obtain ⟨q1, hq1, h⟩ := ai_bd h
      refine rn_call rfl rfl rfl rfl rfl rfl (by omega) (t_Wheel_take_15_19_9 (by omega) hq1) ?_
      refine rn_go 14 (pc' := 11) (l' := [(5, .int (x5 + (1 : Int32))), (4, .int (x4 + (gi (si q1 19 0 ((gi q1 19 0) + (1 : Int32))) 15 5))), (0, .ref 0), (1, .ref 9), (2, .int x2), (3, .ref 19)]) (st' := []) (S1 := (SH ++ X)) (V1 := (si q1 19 0 ((gi q1 19 0) + (1 : Int32)))) rfl ?_
      exact rn_sub [2, 3, 4, 5, 1, 0] rfl rfl (ih x2 (x4 + (gi (si q1 19 0 ((gi q1 19 0) + (1 : Int32))) 15 5)) (x5 + (1 : Int32)) (si q1 19 0 ((gi q1 19 0) + (1 : Int32))) _ h)
def d_X_dryByOrder (x2 : Int32) (V : ai_V) : Option (Int32 × ai_V) :=
  (d_X_asked  V).bind fun q2 => (d_X_dryByOrder_11 ai_N x2 (0 : Int32) (0 : Int32) q2)
set_option maxRecDepth 20000 in
theorem t_X_dryByOrder {X : ai_S} {e : Nat} (hd : 3 ≤ e) {x2 : Int32} {V : ai_V} {r : (Int32 × ai_V)} (h : d_X_dryByOrder x2 V = some r) : Rn e 128 0 (lv_args 0 [.ref 0, .ref 9, .int x2]) [] (SH ++ X) V (some (.int r.1)) (SH ++ X) r.2 := by
  rw [d_X_dryByOrder] at h
  refine rn_go 1 (pc' := 1) (l' := [(0, .ref 0), (1, .ref 9), (2, .int x2)]) (st' := [.ref 0]) (S1 := (SH ++ X)) (V1 := V) rfl ?_
  obtain ⟨q2, hq2, h⟩ := ai_bd h
  refine rn_call rfl rfl rfl rfl rfl rfl (by omega) (t_X_asked (by omega) hq2) ?_
  refine rn_go 5 (pc' := 11) (l' := [(5, .int (0 : Int32)), (4, .int (0 : Int32)), (3, .ref 19), (0, .ref 0), (1, .ref 9), (2, .int x2)]) (st' := []) (S1 := (SH ++ X)) (V1 := q2) rfl ?_
  exact rn_sub [3, 4, 5, 2, 1, 0] rfl rfl (t_X_dryByOrder_11 (X := X) hd ai_N x2 (0 : Int32) (0 : Int32) q2 _ h)
-- RentByTheWheel$House.orderInto([III)V (3, 82, None, None)
def d_House_orderInto_3_82_77 (F6 : Int32 → Int32 → Int32 → Int32 → ai_V → Option ai_V) (F16 : Int32 → Int32 → Int32 → Int32 → Int32 → ai_V → Option ai_V) (x2 : Int32) (x3 : Int32) (x4 : Int32) (x5 : Int32) (x6 : Int32) (V : ai_V) : Option ai_V :=
  F16 x2 x3 x4 x5 (x6 + (1 : Int32)) V
set_option maxRecDepth 20000 in
theorem t_House_orderInto_3_82_77 {X : ai_S} {e : Nat} (hd : 0 ≤ e) (F6 : Int32 → Int32 → Int32 → Int32 → ai_V → Option ai_V) (hF6 : ∀ (x2 : Int32) (x3 : Int32) (x4 : Int32) (x5 : Int32) (V : ai_V) (r : ai_V), F6 x2 x3 x4 x5 V = some r → Rn e 17 6 [(0, .ref 3), (1, .ref 82), (2, .int x2), (3, .int x3), (4, .int x4), (5, .int x5)] [] (SH ++ X) V none (SH ++ X) r) (F16 : Int32 → Int32 → Int32 → Int32 → Int32 → ai_V → Option ai_V) (hF16 : ∀ (x2 : Int32) (x3 : Int32) (x4 : Int32) (x5 : Int32) (x6 : Int32) (V : ai_V) (r : ai_V), F16 x2 x3 x4 x5 x6 V = some r → Rn e 17 16 [(0, .ref 3), (1, .ref 82), (2, .int x2), (3, .int x3), (4, .int x4), (5, .int x5), (6, .int x6)] [] (SH ++ X) V none (SH ++ X) r) (x2 : Int32) (x3 : Int32) (x4 : Int32) (x5 : Int32) (x6 : Int32) (V : ai_V) (r : ai_V) (h : d_House_orderInto_3_82_77 F6 F16 x2 x3 x4 x5 x6 V = some r) : Rn e 17 77 [(0, .ref 3), (1, .ref 82), (2, .int x2), (3, .int x3), (4, .int x4), (5, .int x5), (6, .int x6)] [] (SH ++ X) V none (SH ++ X) r := by
  rw [d_House_orderInto_3_82_77] at h
  refine rn_go 2 (pc' := 16) (l' := [(6, .int (x6 + (1 : Int32))), (0, .ref 3), (1, .ref 82), (2, .int x2), (3, .int x3), (4, .int x4), (5, .int x5)]) (st' := []) (S1 := (SH ++ X)) (V1 := V) rfl ?_
  exact rn_sub [1, 2, 3, 4, 5, 6, 0] rfl rfl (hF16 x2 x3 x4 x5 (x6 + (1 : Int32)) V _ h)
def d_House_orderInto_3_82_47 (F6 : Int32 → Int32 → Int32 → Int32 → ai_V → Option ai_V) (F16 : Int32 → Int32 → Int32 → Int32 → Int32 → ai_V → Option ai_V) (x2 : Int32) (x3 : Int32) (x4 : Int32) (x5 : Int32) (x6 : Int32) (s0 : Int32) (V : ai_V) : Option ai_V :=
  if ai_in s0 6 then (if ¬ (ga V 4 (s0).toNatClampNeg) = x5 then (d_House_orderInto_3_82_77 F6 F16 x2 x3 x4 x5 x6 V) else (if (Int32.ofNat 6) ≤ x4 then (d_House_orderInto_3_82_77 F6 F16 x2 x3 x4 x5 x6 V) else (if ai_in x4 6 then (d_House_orderInto_3_82_77 F6 F16 x2 x3 (x4 + (1 : Int32)) x5 x6 (sa V 82 (x4).toNatClampNeg x6)) else none))) else none
set_option maxRecDepth 20000 in
theorem t_House_orderInto_3_82_47 {X : ai_S} {e : Nat} (hd : 0 ≤ e) (F6 : Int32 → Int32 → Int32 → Int32 → ai_V → Option ai_V) (hF6 : ∀ (x2 : Int32) (x3 : Int32) (x4 : Int32) (x5 : Int32) (V : ai_V) (r : ai_V), F6 x2 x3 x4 x5 V = some r → Rn e 17 6 [(0, .ref 3), (1, .ref 82), (2, .int x2), (3, .int x3), (4, .int x4), (5, .int x5)] [] (SH ++ X) V none (SH ++ X) r) (F16 : Int32 → Int32 → Int32 → Int32 → Int32 → ai_V → Option ai_V) (hF16 : ∀ (x2 : Int32) (x3 : Int32) (x4 : Int32) (x5 : Int32) (x6 : Int32) (V : ai_V) (r : ai_V), F16 x2 x3 x4 x5 x6 V = some r → Rn e 17 16 [(0, .ref 3), (1, .ref 82), (2, .int x2), (3, .int x3), (4, .int x4), (5, .int x5), (6, .int x6)] [] (SH ++ X) V none (SH ++ X) r) (x2 : Int32) (x3 : Int32) (x4 : Int32) (x5 : Int32) (x6 : Int32) (s0 : Int32) (V : ai_V) (r : ai_V) (h : d_House_orderInto_3_82_47 F6 F16 x2 x3 x4 x5 x6 s0 V = some r) : Rn e 17 47 [(0, .ref 3), (1, .ref 82), (2, .int x2), (3, .int x3), (4, .int x4), (5, .int x5), (6, .int x6)] [.int s0] (SH ++ X) V none (SH ++ X) r := by
  rw [d_House_orderInto_3_82_47] at h
  refine rn_go 4 (pc' := 55) (l' := [(7, .int s0), (0, .ref 3), (1, .ref 82), (2, .int x2), (3, .int x3), (4, .int x4), (5, .int x5), (6, .int x6)]) (st' := [.int s0, .ref 4]) (S1 := (SH ++ X)) (V1 := V) rfl ?_
  obtain ⟨hg, h⟩ := ai_gd h
  refine rg_iald (n := 6) rfl rfl hg ?_
  refine rn_go 1 (pc' := 58) (l' := [(7, .int s0), (0, .ref 3), (1, .ref 82), (2, .int x2), (3, .int x3), (4, .int x4), (5, .int x5), (6, .int x6)]) (st' := [.int x5, .int (ga V 4 (s0).toNatClampNeg)]) (S1 := (SH ++ X)) (V1 := V) rfl ?_
  rcases ai_if h with ⟨hc, h⟩ | ⟨hc, h⟩
  · refine rn_brT rfl rfl rfl rfl hc ?_
    exact rn_sub [1, 2, 3, 4, 5, 6, 7] rfl rfl (t_House_orderInto_3_82_77 (X := X) hd F6 hF6 F16 hF16 x2 x3 x4 x5 x6 V _ h)
  · refine rn_brF rfl rfl rfl rfl hc ?_
    refine rn_go 3 (pc' := 65) (l' := [(7, .int s0), (0, .ref 3), (1, .ref 82), (2, .int x2), (3, .int x3), (4, .int x4), (5, .int x5), (6, .int x6)]) (st' := [.int (Int32.ofNat 6), .int x4]) (S1 := (SH ++ X)) (V1 := V) rfl ?_
    rcases ai_if h with ⟨hc, h⟩ | ⟨hc, h⟩
    · refine rn_brT rfl rfl rfl rfl hc ?_
      exact rn_sub [1, 2, 3, 4, 5, 6, 7] rfl rfl (t_House_orderInto_3_82_77 (X := X) hd F6 hF6 F16 hF16 x2 x3 x4 x5 x6 V _ h)
    · refine rn_brF rfl rfl rfl rfl hc ?_
      refine rn_go 3 (pc' := 73) (l' := [(7, .int s0), (0, .ref 3), (1, .ref 82), (2, .int x2), (3, .int x3), (4, .int x4), (5, .int x5), (6, .int x6)]) (st' := [.int x6, .int x4, .ref 82]) (S1 := (SH ++ X)) (V1 := V) rfl ?_
      obtain ⟨hg, h⟩ := ai_gd h
      refine rg_iast (n := 6) rfl rfl hg ?_
      refine rn_go 1 (pc' := 77) (l' := [(4, .int (x4 + (1 : Int32))), (7, .int s0), (0, .ref 3), (1, .ref 82), (2, .int x2), (3, .int x3), (5, .int x5), (6, .int x6)]) (st' := []) (S1 := (SH ++ X)) (V1 := (sa V 82 (x4).toNatClampNeg x6)) rfl ?_
      exact rn_sub [2, 3, 4, 5, 0, 6, 7] rfl rfl (t_House_orderInto_3_82_77 (X := X) hd F6 hF6 F16 hF16 x2 x3 (x4 + (1 : Int32)) x5 x6 (sa V 82 (x4).toNatClampNeg x6) _ h)
def d_House_orderInto_3_82_16 (F6 : Int32 → Int32 → Int32 → Int32 → ai_V → Option ai_V) : Nat → Int32 → Int32 → Int32 → Int32 → Int32 → ai_V → Option ai_V
  | 0, _, _, _, _, _, _ => none
  | n + 1, x2, x3, x4, x5, x6, V => if (gi V 3 0) ≤ x6 then (F6 x2 x3 x4 (x5 + (1 : Int32)) V) else (if ¬ x6 = x2 then (if ¬ x6 = x3 then (d_House_orderInto_3_82_47 F6 (d_House_orderInto_3_82_16 F6 n) x2 x3 x4 x5 x6 x6 V) else (d_House_orderInto_3_82_47 F6 (d_House_orderInto_3_82_16 F6 n) x2 x3 x4 x5 x6 x2 V)) else (d_House_orderInto_3_82_47 F6 (d_House_orderInto_3_82_16 F6 n) x2 x3 x4 x5 x6 x3 V))
set_option maxRecDepth 20000 in
theorem t_House_orderInto_3_82_16 {X : ai_S} {e : Nat} (hd : 0 ≤ e) (F6 : Int32 → Int32 → Int32 → Int32 → ai_V → Option ai_V) (hF6 : ∀ (x2 : Int32) (x3 : Int32) (x4 : Int32) (x5 : Int32) (V : ai_V) (r : ai_V), F6 x2 x3 x4 x5 V = some r → Rn e 17 6 [(0, .ref 3), (1, .ref 82), (2, .int x2), (3, .int x3), (4, .int x4), (5, .int x5)] [] (SH ++ X) V none (SH ++ X) r) : ∀ (n : Nat) (x2 : Int32) (x3 : Int32) (x4 : Int32) (x5 : Int32) (x6 : Int32) (V : ai_V) (r : ai_V), d_House_orderInto_3_82_16 F6 n x2 x3 x4 x5 x6 V = some r → Rn e 17 16 [(0, .ref 3), (1, .ref 82), (2, .int x2), (3, .int x3), (4, .int x4), (5, .int x5), (6, .int x6)] [] (SH ++ X) V none (SH ++ X) r := by
  intro n
  induction n with
  | zero =>
    intro x2 x3 x4 x5 x6 V r h
    cases h
  | succ n ih =>
    intro x2 x3 x4 x5 x6 V r h
    rw [d_House_orderInto_3_82_16] at h
    refine rn_go 3 (pc' := 22) (l' := [(0, .ref 3), (1, .ref 82), (2, .int x2), (3, .int x3), (4, .int x4), (5, .int x5), (6, .int x6)]) (st' := [.int (gi V 3 0), .int x6]) (S1 := (SH ++ X)) (V1 := V) rfl ?_
    rcases ai_if h with ⟨hc, h⟩ | ⟨hc, h⟩
    · refine rn_brT rfl rfl rfl rfl hc ?_
      refine rn_go 2 (pc' := 6) (l' := [(5, .int (x5 + (1 : Int32))), (0, .ref 3), (1, .ref 82), (2, .int x2), (3, .int x3), (4, .int x4), (6, .int x6)]) (st' := []) (S1 := (SH ++ X)) (V1 := V) rfl ?_
      exact rn_sub [1, 2, 3, 4, 5, 0] rfl rfl (hF6 x2 x3 x4 (x5 + (1 : Int32)) V _ h)
    · refine rn_brF rfl rfl rfl rfl hc ?_
      refine rn_go 2 (pc' := 28) (l' := [(0, .ref 3), (1, .ref 82), (2, .int x2), (3, .int x3), (4, .int x4), (5, .int x5), (6, .int x6)]) (st' := [.int x2, .int x6]) (S1 := (SH ++ X)) (V1 := V) rfl ?_
      rcases ai_if h with ⟨hc, h⟩ | ⟨hc, h⟩
      · refine rn_brT rfl rfl rfl rfl hc ?_
        refine rn_go 2 (pc' := 38) (l' := [(0, .ref 3), (1, .ref 82), (2, .int x2), (3, .int x3), (4, .int x4), (5, .int x5), (6, .int x6)]) (st' := [.int x3, .int x6]) (S1 := (SH ++ X)) (V1 := V) rfl ?_
        rcases ai_if h with ⟨hc, h⟩ | ⟨hc, h⟩
        · refine rn_brT rfl rfl rfl rfl hc ?_
          refine rn_go 1 (pc' := 47) (l' := [(0, .ref 3), (1, .ref 82), (2, .int x2), (3, .int x3), (4, .int x4), (5, .int x5), (6, .int x6)]) (st' := [.int x6]) (S1 := (SH ++ X)) (V1 := V) rfl ?_
          exact rn_sub [0, 1, 2, 3, 4, 5, 6] rfl rfl (t_House_orderInto_3_82_47 (X := X) hd F6 hF6 (d_House_orderInto_3_82_16 F6 n) (ih) x2 x3 x4 x5 x6 x6 V _ h)
        · refine rn_brF rfl rfl rfl rfl hc ?_
          refine rn_go 2 (pc' := 47) (l' := [(0, .ref 3), (1, .ref 82), (2, .int x2), (3, .int x3), (4, .int x4), (5, .int x5), (6, .int x6)]) (st' := [.int x2]) (S1 := (SH ++ X)) (V1 := V) rfl ?_
          exact rn_sub [0, 1, 2, 3, 4, 5, 6] rfl rfl (t_House_orderInto_3_82_47 (X := X) hd F6 hF6 (d_House_orderInto_3_82_16 F6 n) (ih) x2 x3 x4 x5 x6 x2 V _ h)
      · refine rn_brF rfl rfl rfl rfl hc ?_
        refine rn_go 2 (pc' := 47) (l' := [(0, .ref 3), (1, .ref 82), (2, .int x2), (3, .int x3), (4, .int x4), (5, .int x5), (6, .int x6)]) (st' := [.int x3]) (S1 := (SH ++ X)) (V1 := V) rfl ?_
        exact rn_sub [0, 1, 2, 3, 4, 5, 6] rfl rfl (t_House_orderInto_3_82_47 (X := X) hd F6 hF6 (d_House_orderInto_3_82_16 F6 n) (ih) x2 x3 x4 x5 x6 x3 V _ h)
def d_House_orderInto_3_82_6  : Nat → Int32 → Int32 → Int32 → Int32 → ai_V → Option ai_V
  | 0, _, _, _, _, _ => none
  | n + 1, x2, x3, x4, x5, V => if (6 : Int32) ≤ x5 then (some V) else (d_House_orderInto_3_82_16 (d_House_orderInto_3_82_6 n) ai_N x2 x3 x4 x5 (0 : Int32) V)
set_option maxRecDepth 20000 in
theorem t_House_orderInto_3_82_6 {X : ai_S} {e : Nat} (hd : 0 ≤ e)  : ∀ (n : Nat) (x2 : Int32) (x3 : Int32) (x4 : Int32) (x5 : Int32) (V : ai_V) (r : ai_V), d_House_orderInto_3_82_6  n x2 x3 x4 x5 V = some r → Rn e 17 6 [(0, .ref 3), (1, .ref 82), (2, .int x2), (3, .int x3), (4, .int x4), (5, .int x5)] [] (SH ++ X) V none (SH ++ X) r := by
  intro n
  induction n with
  | zero =>
    intro x2 x3 x4 x5 V r h
    cases h
  | succ n ih =>
    intro x2 x3 x4 x5 V r h
    rw [d_House_orderInto_3_82_6] at h
    refine rn_go 2 (pc' := 10) (l' := [(0, .ref 3), (1, .ref 82), (2, .int x2), (3, .int x3), (4, .int x4), (5, .int x5)]) (st' := [.int (6 : Int32), .int x5]) (S1 := (SH ++ X)) (V1 := V) rfl ?_
    rcases ai_if h with ⟨hc, h⟩ | ⟨hc, h⟩
    · refine rn_brT rfl rfl rfl rfl hc ?_
      obtain rfl := Option.some.inj h
      exact rn_ret rfl rfl rfl
    · refine rn_brF rfl rfl rfl rfl hc ?_
      refine rn_go 2 (pc' := 16) (l' := [(6, .int (0 : Int32)), (0, .ref 3), (1, .ref 82), (2, .int x2), (3, .int x3), (4, .int x4), (5, .int x5)]) (st' := []) (S1 := (SH ++ X)) (V1 := V) rfl ?_
      exact rn_sub [1, 2, 3, 4, 5, 6, 0] rfl rfl (t_House_orderInto_3_82_16 (X := X) hd (d_House_orderInto_3_82_6 n) (ih) ai_N x2 x3 x4 x5 (0 : Int32) V _ h)
def d_House_orderInto_3_82 (x2 : Int32) (x3 : Int32) (V : ai_V) : Option ai_V :=
  d_House_orderInto_3_82_6 ai_N x2 x3 (0 : Int32) (0 : Int32) V
set_option maxRecDepth 20000 in
theorem t_House_orderInto_3_82 {X : ai_S} {e : Nat} (hd : 0 ≤ e) {x2 : Int32} {x3 : Int32} {V : ai_V} {r : ai_V} (h : d_House_orderInto_3_82 x2 x3 V = some r) : Rn e 17 0 (lv_args 0 [.ref 3, .ref 82, .int x2, .int x3]) [] (SH ++ X) V none (SH ++ X) r := by
  rw [d_House_orderInto_3_82] at h
  refine rn_go 4 (pc' := 6) (l' := [(5, .int (0 : Int32)), (4, .int (0 : Int32)), (0, .ref 3), (1, .ref 82), (2, .int x2), (3, .int x3)]) (st' := []) (S1 := (SH ++ X)) (V1 := V) rfl ?_
  exact rn_sub [2, 3, 4, 5, 1, 0] rfl rfl (t_House_orderInto_3_82_6 (X := X) hd ai_N x2 x3 (0 : Int32) (0 : Int32) V _ h)
-- RentByTheWheel$Wheel.take(LRentByTheWheel$State;[I)V (15, 19, 82)
def d_Wheel_take_15_19_82_105 (F18 : Int32 → Int32 → ai_V → Option ai_V) (x3 : Int32) (x4 : Int32) (V : ai_V) : Option ai_V :=
  F18 x3 (x4 + (1 : Int32)) V
set_option maxRecDepth 20000 in
theorem t_Wheel_take_15_19_82_105 {X : ai_S} {e : Nat} (hd : 2 ≤ e) (F18 : Int32 → Int32 → ai_V → Option ai_V) (hF18 : ∀ (x3 : Int32) (x4 : Int32) (V : ai_V) (r : ai_V), F18 x3 x4 V = some r → Rn e 54 18 [(0, .ref 15), (1, .ref 19), (2, .ref 82), (3, .int x3), (4, .int x4)] [] (SH ++ X) V none (SH ++ X) r) (x3 : Int32) (x4 : Int32) (V : ai_V) (r : ai_V) (h : d_Wheel_take_15_19_82_105 F18 x3 x4 V = some r) : Rn e 54 105 [(0, .ref 15), (1, .ref 19), (2, .ref 82), (3, .int x3), (4, .int x4)] [] (SH ++ X) V none (SH ++ X) r := by
  rw [d_Wheel_take_15_19_82_105] at h
  refine rn_go 2 (pc' := 18) (l' := [(4, .int (x4 + (1 : Int32))), (0, .ref 15), (1, .ref 19), (2, .ref 82), (3, .int x3)]) (st' := []) (S1 := (SH ++ X)) (V1 := V) rfl ?_
  exact rn_sub [1, 2, 3, 4, 0] rfl rfl (hF18 x3 (x4 + (1 : Int32)) V _ h)
def d_Wheel_take_15_19_82_18  : Nat → Int32 → Int32 → ai_V → Option ai_V
  | 0, _, _, _ => none
  | n + 1, x3, x4, V => if (gi V 3 0) ≤ x4 then (some V) else (if ai_in x4 6 then ((d_House_wantOf (ga V 82 (x4).toNatClampNeg) x3 V).bind fun q1 => (if (gi V 19 1) < q1 then (if ai_in (ga V 82 (x4).toNatClampNeg) 6 then (if ai_in (ga V 82 (x4).toNatClampNeg) 6 then (d_Wheel_take_15_19_82_105 (d_Wheel_take_15_19_82_18 n) x3 x4 (si (si (sa V 21 ((ga V 82 (x4).toNatClampNeg)).toNatClampNeg ((ga V 21 ((ga V 82 (x4).toNatClampNeg)).toNatClampNeg) + (1 : Int32))) 15 4 ((gi (sa V 21 ((ga V 82 (x4).toNatClampNeg)).toNatClampNeg ((ga V 21 ((ga V 82 (x4).toNatClampNeg)).toNatClampNeg) + (1 : Int32))) 15 4) ||| ((1 : Int32) <<< ((ga V 82 (x4).toNatClampNeg) &&& 31)))) 15 5 ((gi (si (sa V 21 ((ga V 82 (x4).toNatClampNeg)).toNatClampNeg ((ga V 21 ((ga V 82 (x4).toNatClampNeg)).toNatClampNeg) + (1 : Int32))) 15 4 ((gi (sa V 21 ((ga V 82 (x4).toNatClampNeg)).toNatClampNeg ((ga V 21 ((ga V 82 (x4).toNatClampNeg)).toNatClampNeg) + (1 : Int32))) 15 4) ||| ((1 : Int32) <<< ((ga V 82 (x4).toNatClampNeg) &&& 31)))) 15 5) + (1 : Int32)))) else none) else none) else (d_Wheel_take_15_19_82_105 (d_Wheel_take_15_19_82_18 n) x3 x4 (si V 19 1 ((gi V 19 1) - q1))))) else none)
set_option maxRecDepth 20000 in
theorem t_Wheel_take_15_19_82_18 {X : ai_S} {e : Nat} (hd : 2 ≤ e)  : ∀ (n : Nat) (x3 : Int32) (x4 : Int32) (V : ai_V) (r : ai_V), d_Wheel_take_15_19_82_18  n x3 x4 V = some r → Rn e 54 18 [(0, .ref 15), (1, .ref 19), (2, .ref 82), (3, .int x3), (4, .int x4)] [] (SH ++ X) V none (SH ++ X) r := by
  intro n
  induction n with
  | zero =>
    intro x3 x4 V r h
    cases h
  | succ n ih =>
    intro x3 x4 V r h
    rw [d_Wheel_take_15_19_82_18] at h
    refine rn_go 4 (pc' := 27) (l' := [(0, .ref 15), (1, .ref 19), (2, .ref 82), (3, .int x3), (4, .int x4)]) (st' := [.int (gi V 3 0), .int x4]) (S1 := (SH ++ X)) (V1 := V) rfl ?_
    rcases ai_if h with ⟨hc, h⟩ | ⟨hc, h⟩
    · refine rn_brT rfl rfl rfl rfl hc ?_
      obtain rfl := Option.some.inj h
      exact rn_ret rfl rfl rfl
    · refine rn_brF rfl rfl rfl rfl hc ?_
      refine rn_go 2 (pc' := 33) (l' := [(0, .ref 15), (1, .ref 19), (2, .ref 82), (3, .int x3), (4, .int x4)]) (st' := [.int x4, .ref 82]) (S1 := (SH ++ X)) (V1 := V) rfl ?_
      obtain ⟨hg, h⟩ := ai_gd h
      refine rg_iald (n := 6) rfl rfl hg ?_
      refine rn_go 5 (pc' := 43) (l' := [(5, .int (ga V 82 (x4).toNatClampNeg)), (0, .ref 15), (1, .ref 19), (2, .ref 82), (3, .int x3), (4, .int x4)]) (st' := [.int x3, .int (ga V 82 (x4).toNatClampNeg), .ref 3]) (S1 := (SH ++ X)) (V1 := V) rfl ?_
      obtain ⟨q1, hq1, h⟩ := ai_bd h
      refine rn_call rfl rfl rfl rfl rfl rfl (by omega) (t_House_wantOf (by omega) hq1) ?_
      refine rn_go 4 (pc' := 54) (l' := [(6, .int q1), (5, .int (ga V 82 (x4).toNatClampNeg)), (0, .ref 15), (1, .ref 19), (2, .ref 82), (3, .int x3), (4, .int x4)]) (st' := [.int q1, .int (gi V 19 1)]) (S1 := (SH ++ X)) (V1 := V) rfl ?_
      rcases ai_if h with ⟨hc, h⟩ | ⟨hc, h⟩
      · refine rn_brT rfl rfl rfl rfl hc ?_
        refine rn_go 4 (pc' := 78) (l' := [(6, .int q1), (5, .int (ga V 82 (x4).toNatClampNeg)), (0, .ref 15), (1, .ref 19), (2, .ref 82), (3, .int x3), (4, .int x4)]) (st' := [.int (ga V 82 (x4).toNatClampNeg), .ref 21, .int (ga V 82 (x4).toNatClampNeg), .ref 21]) (S1 := (SH ++ X)) (V1 := V) rfl ?_
        obtain ⟨hg, h⟩ := ai_gd h
        refine rg_iald (n := 6) rfl rfl hg ?_
        refine rn_go 2 (pc' := 81) (l' := [(6, .int q1), (5, .int (ga V 82 (x4).toNatClampNeg)), (0, .ref 15), (1, .ref 19), (2, .ref 82), (3, .int x3), (4, .int x4)]) (st' := [.int ((ga V 21 ((ga V 82 (x4).toNatClampNeg)).toNatClampNeg) + (1 : Int32)), .int (ga V 82 (x4).toNatClampNeg), .ref 21]) (S1 := (SH ++ X)) (V1 := V) rfl ?_
        obtain ⟨hg, h⟩ := ai_gd h
        refine rg_iast (n := 6) rfl rfl hg ?_
        refine rn_go 14 (pc' := 105) (l' := [(6, .int q1), (5, .int (ga V 82 (x4).toNatClampNeg)), (0, .ref 15), (1, .ref 19), (2, .ref 82), (3, .int x3), (4, .int x4)]) (st' := []) (S1 := (SH ++ X)) (V1 := (si (si (sa V 21 ((ga V 82 (x4).toNatClampNeg)).toNatClampNeg ((ga V 21 ((ga V 82 (x4).toNatClampNeg)).toNatClampNeg) + (1 : Int32))) 15 4 ((gi (sa V 21 ((ga V 82 (x4).toNatClampNeg)).toNatClampNeg ((ga V 21 ((ga V 82 (x4).toNatClampNeg)).toNatClampNeg) + (1 : Int32))) 15 4) ||| ((1 : Int32) <<< ((ga V 82 (x4).toNatClampNeg) &&& 31)))) 15 5 ((gi (si (sa V 21 ((ga V 82 (x4).toNatClampNeg)).toNatClampNeg ((ga V 21 ((ga V 82 (x4).toNatClampNeg)).toNatClampNeg) + (1 : Int32))) 15 4 ((gi (sa V 21 ((ga V 82 (x4).toNatClampNeg)).toNatClampNeg ((ga V 21 ((ga V 82 (x4).toNatClampNeg)).toNatClampNeg) + (1 : Int32))) 15 4) ||| ((1 : Int32) <<< ((ga V 82 (x4).toNatClampNeg) &&& 31)))) 15 5) + (1 : Int32)))) rfl ?_
        exact rn_sub [2, 3, 4, 5, 6] rfl rfl (t_Wheel_take_15_19_82_105 (X := X) hd (d_Wheel_take_15_19_82_18 n) (ih) x3 x4 (si (si (sa V 21 ((ga V 82 (x4).toNatClampNeg)).toNatClampNeg ((ga V 21 ((ga V 82 (x4).toNatClampNeg)).toNatClampNeg) + (1 : Int32))) 15 4 ((gi (sa V 21 ((ga V 82 (x4).toNatClampNeg)).toNatClampNeg ((ga V 21 ((ga V 82 (x4).toNatClampNeg)).toNatClampNeg) + (1 : Int32))) 15 4) ||| ((1 : Int32) <<< ((ga V 82 (x4).toNatClampNeg) &&& 31)))) 15 5 ((gi (si (sa V 21 ((ga V 82 (x4).toNatClampNeg)).toNatClampNeg ((ga V 21 ((ga V 82 (x4).toNatClampNeg)).toNatClampNeg) + (1 : Int32))) 15 4 ((gi (sa V 21 ((ga V 82 (x4).toNatClampNeg)).toNatClampNeg ((ga V 21 ((ga V 82 (x4).toNatClampNeg)).toNatClampNeg) + (1 : Int32))) 15 4) ||| ((1 : Int32) <<< ((ga V 82 (x4).toNatClampNeg) &&& 31)))) 15 5) + (1 : Int32))) _ h)
      · refine rn_brF rfl rfl rfl rfl hc ?_
        refine rn_go 7 (pc' := 105) (l' := [(6, .int q1), (5, .int (ga V 82 (x4).toNatClampNeg)), (0, .ref 15), (1, .ref 19), (2, .ref 82), (3, .int x3), (4, .int x4)]) (st' := []) (S1 := (SH ++ X)) (V1 := (si V 19 1 ((gi V 19 1) - q1))) rfl ?_
        exact rn_sub [2, 3, 4, 5, 6] rfl rfl (t_Wheel_take_15_19_82_105 (X := X) hd (d_Wheel_take_15_19_82_18 n) (ih) x3 x4 (si V 19 1 ((gi V 19 1) - q1)) _ h)
def d_Wheel_take_15_19_82  (V : ai_V) : Option ai_V :=
  (d_State_quarterNow_19  V).bind fun q2 => (d_Wheel_take_15_19_82_18 ai_N q2 (0 : Int32) (si (si V 15 4 (0 : Int32)) 15 5 (0 : Int32)))
set_option maxRecDepth 20000 in
theorem t_Wheel_take_15_19_82 {X : ai_S} {e : Nat} (hd : 2 ≤ e)  {V : ai_V} {r : ai_V} (h : d_Wheel_take_15_19_82  V = some r) : Rn e 54 0 (lv_args 0 [.ref 15, .ref 19, .ref 82]) [] (SH ++ X) V none (SH ++ X) r := by
  rw [d_Wheel_take_15_19_82] at h
  refine rn_go 1 (pc' := 1) (l' := [(0, .ref 15), (1, .ref 19), (2, .ref 82)]) (st' := [.ref 19]) (S1 := (SH ++ X)) (V1 := V) rfl ?_
  obtain ⟨q2, hq2, h⟩ := ai_bd h
  refine rn_call rfl rfl rfl rfl rfl rfl (by omega) (t_State_quarterNow_19 (by omega) hq2) ?_
  refine rn_go 9 (pc' := 18) (l' := [(4, .int (0 : Int32)), (3, .int q2), (0, .ref 15), (1, .ref 19), (2, .ref 82)]) (st' := []) (S1 := (SH ++ X)) (V1 := (si (si V 15 4 (0 : Int32)) 15 5 (0 : Int32))) rfl ?_
  exact rn_sub [2, 3, 4, 1, 0] rfl rfl (t_Wheel_take_15_19_82_18 (X := X) hd ai_N q2 (0 : Int32) (si (si V 15 4 (0 : Int32)) 15 5 (0 : Int32)) _ h)
-- RentByTheWheel.dryByOrder([II)I (0, 82, None)
def d_X_dryByOrder_0_82_11  : Nat → Int32 → Int32 → Int32 → ai_V → Option (Int32 × ai_V)
  | 0, _, _, _, _ => none
  | n + 1, x2, x4, x5, V => if x2 ≤ x5 then (some (x4, V)) else ((d_Wheel_take_15_19_82  V).bind fun q1 => (d_X_dryByOrder_0_82_11 n x2 (x4 + (gi (si q1 19 0 ((gi q1 19 0) + (1 : Int32))) 15 5)) (x5 + (1 : Int32)) (si q1 19 0 ((gi q1 19 0) + (1 : Int32)))))
set_option maxRecDepth 20000 in
theorem t_X_dryByOrder_0_82_11 {X : ai_S} {e : Nat} (hd : 3 ≤ e)  : ∀ (n : Nat) (x2 : Int32) (x4 : Int32) (x5 : Int32) (V : ai_V) (r : (Int32 × ai_V)), d_X_dryByOrder_0_82_11  n x2 x4 x5 V = some r → Rn e 128 11 [(0, .ref 0), (1, .ref 82), (2, .int x2), (3, .ref 19), (4, .int x4), (5, .int x5)] [] (SH ++ X) V (some (.int r.1)) (SH ++ X) r.2 := by
  intro n
  induction n with
  | zero =>
    intro x2 x4 x5 V r h
    cases h
  | succ n ih =>
    intro x2 x4 x5 V r h
    rw [d_X_dryByOrder_0_82_11] at h
    refine rn_go 2 (pc' := 14) (l' := [(0, .ref 0), (1, .ref 82), (2, .int x2), (3, .ref 19), (4, .int x4), (5, .int x5)]) (st' := [.int x2, .int x5]) (S1 := (SH ++ X)) (V1 := V) rfl ?_
    rcases ai_if h with ⟨hc, h⟩ | ⟨hc, h⟩
    · refine rn_brT rfl rfl rfl rfl hc ?_
      refine rn_go 1 (pc' := 56) (l' := [(0, .ref 0), (1, .ref 82), (2, .int x2), (3, .ref 19), (4, .int x4), (5, .int x5)]) (st' := [.int x4]) (S1 := (SH ++ X)) (V1 := V) rfl ?_
      obtain rfl := Option.some.inj h
      exact rn_ret rfl rfl rfl
    · refine rn_brF rfl rfl rfl rfl hc ?_
      refine rn_go 4 (pc' := 23) (l' := [(0, .ref 0), (1, .ref 82), (2, .int x2), (3, .ref 19), (4, .int x4), (5, .int x5)]) (st' := [.ref 82, .ref 19, .ref 15]) (S1 := (SH ++ X)) (V1 := V) rfl ?_
      obtain ⟨q1, hq1, h⟩ := ai_bd h
      refine rn_call rfl rfl rfl rfl rfl rfl (by omega) (t_Wheel_take_15_19_82 (by omega) hq1) ?_
      refine rn_go 14 (pc' := 11) (l' := [(5, .int (x5 + (1 : Int32))), (4, .int (x4 + (gi (si q1 19 0 ((gi q1 19 0) + (1 : Int32))) 15 5))), (0, .ref 0), (1, .ref 82), (2, .int x2), (3, .ref 19)]) (st' := []) (S1 := (SH ++ X)) (V1 := (si q1 19 0 ((gi q1 19 0) + (1 : Int32)))) rfl ?_
      exact rn_sub [2, 3, 4, 5, 1, 0] rfl rfl (ih x2 (x4 + (gi (si q1 19 0 ((gi q1 19 0) + (1 : Int32))) 15 5)) (x5 + (1 : Int32)) (si q1 19 0 ((gi q1 19 0) + (1 : Int32))) _ h)
def d_X_dryByOrder_0_82 (x2 : Int32) (V : ai_V) : Option (Int32 × ai_V) :=
  (d_X_asked  V).bind fun q2 => (d_X_dryByOrder_0_82_11 ai_N x2 (0 : Int32) (0 : Int32) q2)
set_option maxRecDepth 20000 in
theorem t_X_dryByOrder_0_82 {X : ai_S} {e : Nat} (hd : 3 ≤ e) {x2 : Int32} {V : ai_V} {r : (Int32 × ai_V)} (h : d_X_dryByOrder_0_82 x2 V = some r) : Rn e 128 0 (lv_args 0 [.ref 0, .ref 82, .int x2]) [] (SH ++ X) V (some (.int r.1)) (SH ++ X) r.2 := by
  rw [d_X_dryByOrder_0_82] at h
  refine rn_go 1 (pc' := 1) (l' := [(0, .ref 0), (1, .ref 82), (2, .int x2)]) (st' := [.ref 0]) (S1 := (SH ++ X)) (V1 := V) rfl ?_
  obtain ⟨q2, hq2, h⟩ := ai_bd h
  refine rn_call rfl rfl rfl rfl rfl rfl (by omega) (t_X_asked (by omega) hq2) ?_
  refine rn_go 5 (pc' := 11) (l' := [(5, .int (0 : Int32)), (4, .int (0 : Int32)), (3, .ref 19), (0, .ref 0), (1, .ref 82), (2, .int x2)]) (st' := []) (S1 := (SH ++ X)) (V1 := q2) rfl ?_
  exact rn_sub [3, 4, 5, 2, 1, 0] rfl rfl (t_X_dryByOrder_0_82_11 (X := X) hd ai_N x2 (0 : Int32) (0 : Int32) q2 _ h)
-- RentByTheWheel.changed(III)I (0, None, None, None)
def d_X_changed_38   (V : ai_V) : Option (Int32 × ai_V) :=
  some ((-1000 : Int32), V)
set_option maxRecDepth 20000 in
theorem t_X_changed_38 {X : ai_S} {e : Nat} (hd : 4 ≤ e)   (V : ai_V) (r : (Int32 × ai_V)) (h : d_X_changed_38   V = some r) : Rn e 129 38 [] [] (SH ++ X) V (some (.int r.1)) (SH ++ X) r.2 := by
  rw [d_X_changed_38] at h
  refine rn_go 1 (pc' := 41) (l' := []) (st' := [.int (-1000 : Int32)]) (S1 := (SH ++ X)) (V1 := V) rfl ?_
  obtain rfl := Option.some.inj h
  exact rn_ret rfl rfl rfl
def d_X_changed (x1 : Int32) (x2 : Int32) (x3 : Int32) (V : ai_V) : Option (Int32 × ai_V) :=
  (d_House_has x1 V).bind fun q1 => (if q1 = 0 then (d_X_changed_38 V) else ((d_House_has x2 V).bind fun q2 => (if q2 = 0 then (d_X_changed_38 V) else (if x1 = x2 then (d_X_changed_38 V) else (if x3 < (1 : Int32) then (d_X_changed_38 V) else (if x3 ≤ (60 : Int32) then ((d_X_dryByOrder x3 V).bind fun q3 => ((d_House_orderInto_3_82 x1 x2 q3.2).bind fun q4 => ((d_X_dryByOrder_0_82 x3 q4).bind fun q5 => ((d_Row_tellTwo (q3.1).toInt64 (q5.1).toInt64 q5.2).bind fun q6 => (some ((q5.1 - q3.1), q6)))))) else (d_X_changed_38 V)))))))
set_option maxRecDepth 20000 in
theorem t_X_changed {X : ai_S} {e : Nat} (hd : 4 ≤ e) {x1 : Int32} {x2 : Int32} {x3 : Int32} {V : ai_V} {r : (Int32 × ai_V)} (h : d_X_changed x1 x2 x3 V = some r) : Rn e 129 0 (lv_args 0 [.ref 0, .int x1, .int x2, .int x3]) [] (SH ++ X) V (some (.int r.1)) (SH ++ X) r.2 := by
  rw [d_X_changed] at h
  refine rn_go 3 (pc' := 5) (l' := [(0, .ref 0), (1, .int x1), (2, .int x2), (3, .int x3)]) (st' := [.int x1, .ref 3]) (S1 := (SH ++ X)) (V1 := V) rfl ?_
  obtain ⟨q1, hq1, h⟩ := ai_bd h
  refine rn_call rfl rfl rfl rfl rfl rfl (by omega) (t_House_has (by omega) hq1) ?_
  rcases ai_if h with ⟨hc, h⟩ | ⟨hc, h⟩
  · refine rn_brT rfl rfl rfl rfl hc ?_
    exact rn_sub [] rfl rfl (t_X_changed_38 (X := X) hd V _ h)
  · refine rn_brF rfl rfl rfl rfl hc ?_
    refine rn_go 3 (pc' := 16) (l' := [(0, .ref 0), (1, .int x1), (2, .int x2), (3, .int x3)]) (st' := [.int x2, .ref 3]) (S1 := (SH ++ X)) (V1 := V) rfl ?_
    obtain ⟨q2, hq2, h⟩ := ai_bd h
    refine rn_call rfl rfl rfl rfl rfl rfl (by omega) (t_House_has (by omega) hq2) ?_
    rcases ai_if h with ⟨hc, h⟩ | ⟨hc, h⟩
    · refine rn_brT rfl rfl rfl rfl hc ?_
      exact rn_sub [] rfl rfl (t_X_changed_38 (X := X) hd V _ h)
    · refine rn_brF rfl rfl rfl rfl hc ?_
      refine rn_go 2 (pc' := 24) (l' := [(0, .ref 0), (1, .int x1), (2, .int x2), (3, .int x3)]) (st' := [.int x2, .int x1]) (S1 := (SH ++ X)) (V1 := V) rfl ?_
      rcases ai_if h with ⟨hc, h⟩ | ⟨hc, h⟩
      · refine rn_brT rfl rfl rfl rfl hc ?_
        exact rn_sub [] rfl rfl (t_X_changed_38 (X := X) hd V _ h)
      · refine rn_brF rfl rfl rfl rfl hc ?_
        refine rn_go 2 (pc' := 29) (l' := [(0, .ref 0), (1, .int x1), (2, .int x2), (3, .int x3)]) (st' := [.int (1 : Int32), .int x3]) (S1 := (SH ++ X)) (V1 := V) rfl ?_
        rcases ai_if h with ⟨hc, h⟩ | ⟨hc, h⟩
        · refine rn_brT rfl rfl rfl rfl hc ?_
          exact rn_sub [] rfl rfl (t_X_changed_38 (X := X) hd V _ h)
        · refine rn_brF rfl rfl rfl rfl hc ?_
          refine rn_go 2 (pc' := 35) (l' := [(0, .ref 0), (1, .int x1), (2, .int x2), (3, .int x3)]) (st' := [.int (60 : Int32), .int x3]) (S1 := (SH ++ X)) (V1 := V) rfl ?_
          rcases ai_if h with ⟨hc, h⟩ | ⟨hc, h⟩
          · refine rn_brT rfl rfl rfl rfl hc ?_
            refine rn_go 5 (pc' := 51) (l' := [(0, .ref 0), (1, .int x1), (2, .int x2), (3, .int x3)]) (st' := [.int x3, .ref 9, .ref 0]) (S1 := (SH ++ X)) (V1 := V) rfl ?_
            obtain ⟨q3, hq3, h⟩ := ai_bd h
            refine rn_call rfl rfl rfl rfl rfl rfl (by omega) (t_X_dryByOrder (by omega) hq3) ?_
            refine rn_go 7 (pc' := 66) (l' := [(4, .int q3.1), (0, .ref 0), (1, .int x1), (2, .int x2), (3, .int x3)]) (st' := [.int x2, .int x1, .ref 82, .ref 3]) (S1 := (SH ++ X)) (V1 := q3.2) rfl ?_
            obtain ⟨q4, hq4, h⟩ := ai_bd h
            refine rn_call rfl rfl rfl rfl rfl rfl (by omega) (t_House_orderInto_3_82 (by omega) hq4) ?_
            refine rn_go 4 (pc' := 75) (l' := [(4, .int q3.1), (0, .ref 0), (1, .int x1), (2, .int x2), (3, .int x3)]) (st' := [.int x3, .ref 82, .ref 0]) (S1 := (SH ++ X)) (V1 := q4) rfl ?_
            obtain ⟨q5, hq5, h⟩ := ai_bd h
            refine rn_call rfl rfl rfl rfl rfl rfl (by omega) (t_X_dryByOrder_0_82 (by omega) hq5) ?_
            refine rn_go 7 (pc' := 90) (l' := [(5, .int q5.1), (4, .int q3.1), (0, .ref 0), (1, .int x1), (2, .int x2), (3, .int x3)]) (st' := [.long (q5.1).toInt64, .long (q3.1).toInt64, .ref 22]) (S1 := (SH ++ X)) (V1 := q5.2) rfl ?_
            obtain ⟨q6, hq6, h⟩ := ai_bd h
            refine rn_call rfl rfl rfl rfl rfl rfl (by omega) (t_Row_tellTwo (by omega) hq6) ?_
            refine rn_go 3 (pc' := 98) (l' := [(5, .int q5.1), (4, .int q3.1), (0, .ref 0), (1, .int x1), (2, .int x2), (3, .int x3)]) (st' := [.int (q5.1 - q3.1)]) (S1 := (SH ++ X)) (V1 := q6) rfl ?_
            obtain rfl := Option.some.inj h
            exact rn_ret rfl rfl rfl
          · refine rn_brF rfl rfl rfl rfl hc ?_
            exact rn_sub [] rfl rfl (t_X_changed_38 (X := X) hd V _ h)
-- RentByTheWheel.lasts()I (0,)
def d_X_lasts_7  : Nat → Int32 → ai_V → Option (Int32 × ai_V)
  | 0, _, _ => none
  | n + 1, x2, V => if (99 : Int32) ≤ x2 then (some ((-2 : Int32), V)) else ((d_Wheel_pass_15_19 (-1 : Int32) (-1 : Int32) V).bind fun q1 => (if (gi q1 15 4) = 0 then (d_X_lasts_7 n (x2 + (1 : Int32)) q1) else ((d_Row_tellOne (((gi q1 15 4)).toInt64) q1).bind fun q2 => (some (x2, q2)))))
set_option maxRecDepth 20000 in
theorem t_X_lasts_7 {X : ai_S} {e : Nat} (hd : 4 ≤ e)  : ∀ (n : Nat) (x2 : Int32) (V : ai_V) (r : (Int32 × ai_V)), d_X_lasts_7  n x2 V = some r → Rn e 130 7 [(0, .ref 0), (1, .ref 19), (2, .int x2)] [] (SH ++ X) V (some (.int r.1)) (SH ++ X) r.2 := by
  intro n
  induction n with
  | zero =>
    intro x2 V r h
    cases h
  | succ n ih =>
    intro x2 V r h
    rw [d_X_lasts_7] at h
    refine rn_go 2 (pc' := 10) (l' := [(0, .ref 0), (1, .ref 19), (2, .int x2)]) (st' := [.int (99 : Int32), .int x2]) (S1 := (SH ++ X)) (V1 := V) rfl ?_
    rcases ai_if h with ⟨hc, h⟩ | ⟨hc, h⟩
    · refine rn_brT rfl rfl rfl rfl hc ?_
      refine rn_go 1 (pc' := 58) (l' := [(0, .ref 0), (1, .ref 19), (2, .int x2)]) (st' := [.int (-2 : Int32)]) (S1 := (SH ++ X)) (V1 := V) rfl ?_
      obtain rfl := Option.some.inj h
      exact rn_ret rfl rfl rfl
    · refine rn_brF rfl rfl rfl rfl hc ?_
      refine rn_go 5 (pc' := 20) (l' := [(0, .ref 0), (1, .ref 19), (2, .int x2)]) (st' := [.int (-1 : Int32), .int (-1 : Int32), .ref 19, .ref 15]) (S1 := (SH ++ X)) (V1 := V) rfl ?_
      obtain ⟨q1, hq1, h⟩ := ai_bd h
      refine rn_call rfl rfl rfl rfl rfl rfl (by omega) (t_Wheel_pass_15_19 (by omega) hq1) ?_
      refine rn_go 3 (pc' := 30) (l' := [(0, .ref 0), (1, .ref 19), (2, .int x2)]) (st' := [.int (gi q1 15 4)]) (S1 := (SH ++ X)) (V1 := q1) rfl ?_
      rcases ai_if h with ⟨hc, h⟩ | ⟨hc, h⟩
      · refine rn_brT rfl rfl rfl rfl hc ?_
        refine rn_go 2 (pc' := 7) (l' := [(2, .int (x2 + (1 : Int32))), (0, .ref 0), (1, .ref 19)]) (st' := []) (S1 := (SH ++ X)) (V1 := q1) rfl ?_
        exact rn_sub [1, 2, 0] rfl rfl (ih (x2 + (1 : Int32)) q1 _ h)
      · refine rn_brF rfl rfl rfl rfl hc ?_
        refine rn_go 6 (pc' := 45) (l' := [(0, .ref 0), (1, .ref 19), (2, .int x2)]) (st' := [.long ((gi q1 15 4)).toInt64, .ref 22]) (S1 := (SH ++ X)) (V1 := q1) rfl ?_
        obtain ⟨q2, hq2, h⟩ := ai_bd h
        refine rn_call rfl rfl rfl rfl rfl rfl (by omega) (t_Row_tellOne (by omega) hq2) ?_
        refine rn_go 1 (pc' := 49) (l' := [(0, .ref 0), (1, .ref 19), (2, .int x2)]) (st' := [.int x2]) (S1 := (SH ++ X)) (V1 := q2) rfl ?_
        obtain rfl := Option.some.inj h
        exact rn_ret rfl rfl rfl
def d_X_lasts  (V : ai_V) : Option (Int32 × ai_V) :=
  (d_X_asked  V).bind fun q3 => (d_X_lasts_7 ai_N (0 : Int32) q3)
set_option maxRecDepth 20000 in
theorem t_X_lasts {X : ai_S} {e : Nat} (hd : 4 ≤ e)  {V : ai_V} {r : (Int32 × ai_V)} (h : d_X_lasts  V = some r) : Rn e 130 0 (lv_args 0 [.ref 0]) [] (SH ++ X) V (some (.int r.1)) (SH ++ X) r.2 := by
  rw [d_X_lasts] at h
  refine rn_go 1 (pc' := 1) (l' := [(0, .ref 0)]) (st' := [.ref 0]) (S1 := (SH ++ X)) (V1 := V) rfl ?_
  obtain ⟨q3, hq3, h⟩ := ai_bd h
  refine rn_call rfl rfl rfl rfl rfl rfl (by omega) (t_X_asked (by omega) hq3) ?_
  refine rn_go 3 (pc' := 7) (l' := [(2, .int (0 : Int32)), (1, .ref 19), (0, .ref 0)]) (st' := []) (S1 := (SH ++ X)) (V1 := q3) rfl ?_
  exact rn_sub [2, 1, 0] rfl rfl (t_X_lasts_7 (X := X) hd ai_N (0 : Int32) q3 _ h)
-- java/util/Arrays.fill([II)V (71, None)
def d_Arr_fill_5  : Nat → Int32 → Int32 → Int32 → ai_V → Option ai_V
  | 0, _, _, _, _ => none
  | n + 1, x1, x2, x3, V => if x3 ≤ x2 then (some V) else (if ai_in x2 6 then (d_Arr_fill_5 n x1 (x2 + (1 : Int32)) x3 (sa V 71 (x2).toNatClampNeg x1)) else none)
set_option maxRecDepth 20000 in
theorem t_Arr_fill_5 {X : ai_S} {e : Nat} (hd : 0 ≤ e)  : ∀ (n : Nat) (x1 : Int32) (x2 : Int32) (x3 : Int32) (V : ai_V) (r : ai_V), d_Arr_fill_5  n x1 x2 x3 V = some r → Rn e 8 5 [(0, .ref 71), (1, .int x1), (2, .int x2), (3, .int x3)] [] (SH ++ X) V none (SH ++ X) r := by
  intro n
  induction n with
  | zero =>
    intro x1 x2 x3 V r h
    cases h
  | succ n ih =>
    intro x1 x2 x3 V r h
    rw [d_Arr_fill_5] at h
    refine rn_go 2 (pc' := 7) (l' := [(0, .ref 71), (1, .int x1), (2, .int x2), (3, .int x3)]) (st' := [.int x3, .int x2]) (S1 := (SH ++ X)) (V1 := V) rfl ?_
    rcases ai_if h with ⟨hc, h⟩ | ⟨hc, h⟩
    · refine rn_brT rfl rfl rfl rfl hc ?_
      obtain rfl := Option.some.inj h
      exact rn_ret rfl rfl rfl
    · refine rn_brF rfl rfl rfl rfl hc ?_
      refine rn_go 3 (pc' := 13) (l' := [(0, .ref 71), (1, .int x1), (2, .int x2), (3, .int x3)]) (st' := [.int x1, .int x2, .ref 71]) (S1 := (SH ++ X)) (V1 := V) rfl ?_
      obtain ⟨hg, h⟩ := ai_gd h
      refine rg_iast (n := 6) rfl rfl hg ?_
      refine rn_go 2 (pc' := 5) (l' := [(2, .int (x2 + (1 : Int32))), (0, .ref 71), (1, .int x1), (3, .int x3)]) (st' := []) (S1 := (SH ++ X)) (V1 := (sa V 71 (x2).toNatClampNeg x1)) rfl ?_
      exact rn_sub [1, 2, 0, 3] rfl rfl (ih x1 (x2 + (1 : Int32)) x3 (sa V 71 (x2).toNatClampNeg x1) _ h)
def d_Arr_fill (x1 : Int32) (V : ai_V) : Option ai_V :=
  d_Arr_fill_5 ai_N x1 (0 : Int32) (Int32.ofNat 6) V
set_option maxRecDepth 20000 in
theorem t_Arr_fill {X : ai_S} {e : Nat} (hd : 0 ≤ e) {x1 : Int32} {V : ai_V} {r : ai_V} (h : d_Arr_fill x1 V = some r) : Rn e 8 0 (lv_args 0 [.ref 71, .int x1]) [] (SH ++ X) V none (SH ++ X) r := by
  rw [d_Arr_fill] at h
  refine rn_go 5 (pc' := 5) (l' := [(3, .int (Int32.ofNat 6)), (2, .int (0 : Int32)), (0, .ref 71), (1, .int x1)]) (st' := []) (S1 := (SH ++ X)) (V1 := V) rfl ?_
  exact rn_sub [2, 3, 1, 0] rfl rfl (t_Arr_fill_5 (X := X) hd ai_N x1 (0 : Int32) (Int32.ofNat 6) V _ h)
