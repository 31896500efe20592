/-! ===== printed by wip/gen/gen.py: methods as functions, and that the machine runs so ===== -/
-- RentByTheWheel$Pegs.add(II)Z (78, None, None)
def d_Pegs_add (x1 : Int32) (x2 : Int32) (V : ai_V) : Option (Int32 × ai_V) :=
  if (gi V 78 1) < (12 : Int32) then (if ai_in (gi V 78 1) 12 then (if ai_in (gi (sa V 80 ((gi V 78 1)).toNatClampNeg x1) 78 1) 12 then (some ((1 : Int32), (si (sa (sa V 80 ((gi V 78 1)).toNatClampNeg x1) 81 ((gi (sa V 80 ((gi V 78 1)).toNatClampNeg x1) 78 1)).toNatClampNeg x2) 78 1 ((gi (sa (sa V 80 ((gi V 78 1)).toNatClampNeg x1) 81 ((gi (sa V 80 ((gi V 78 1)).toNatClampNeg x1) 78 1)).toNatClampNeg x2) 78 1) + (1 : Int32))))) else none) else none) else (some ((0 : Int32), V))
set_option maxRecDepth 20000 in
theorem t_Pegs_add {X : ai_S} {e : Nat} (hd : 0 ≤ e) {x1 : Int32} {x2 : Int32} {V : ai_V} {r : (Int32 × ai_V)} (h : d_Pegs_add x1 x2 V = some r) : Rn e 48 0 (lv_args 0 [.ref 78, .int x1, .int x2]) [] (SH ++ X) V (some (.int r.1)) (SH ++ X) r.2 := by
  rw [d_Pegs_add] at h
  refine rn_go 3 (pc' := 6) (l' := [(0, .ref 78), (1, .int x1), (2, .int x2)]) (st' := [.int (12 : Int32), .int (gi V 78 1)]) (S1 := (SH ++ X)) (V1 := V) rfl ?_
  rcases ai_if h with ⟨hc, h⟩ | ⟨hc, h⟩
  · refine rn_brT rfl rfl rfl rfl hc ?_
    refine rn_go 5 (pc' := 20) (l' := [(0, .ref 78), (1, .int x1), (2, .int x2)]) (st' := [.int x1, .int (gi V 78 1), .ref 80]) (S1 := (SH ++ X)) (V1 := V) rfl ?_
    obtain ⟨hg, h⟩ := ai_gd h
    refine rg_iast (n := 12) rfl rfl hg ?_
    refine rn_go 5 (pc' := 30) (l' := [(0, .ref 78), (1, .int x1), (2, .int x2)]) (st' := [.int x2, .int (gi (sa V 80 ((gi V 78 1)).toNatClampNeg x1) 78 1), .ref 81]) (S1 := (SH ++ X)) (V1 := (sa V 80 ((gi V 78 1)).toNatClampNeg x1)) rfl ?_
    obtain ⟨hg, h⟩ := ai_gd h
    refine rg_iast (n := 12) rfl rfl hg ?_
    refine rn_go 7 (pc' := 42) (l' := [(0, .ref 78), (1, .int x1), (2, .int x2)]) (st' := [.int (1 : Int32)]) (S1 := (SH ++ X)) (V1 := (si (sa (sa V 80 ((gi V 78 1)).toNatClampNeg x1) 81 ((gi (sa V 80 ((gi V 78 1)).toNatClampNeg x1) 78 1)).toNatClampNeg x2) 78 1 ((gi (sa (sa V 80 ((gi V 78 1)).toNatClampNeg x1) 81 ((gi (sa V 80 ((gi V 78 1)).toNatClampNeg x1) 78 1)).toNatClampNeg x2) 78 1) + (1 : Int32)))) rfl ?_
    obtain rfl := Option.some.inj h
    exact rg_zret rfl (by decide)
  · refine rn_brF rfl rfl rfl rfl hc ?_
    refine rn_go 1 (pc' := 10) (l' := [(0, .ref 78), (1, .int x1), (2, .int x2)]) (st' := [.int (0 : Int32)]) (S1 := (SH ++ X)) (V1 := V) rfl ?_
    obtain rfl := Option.some.inj h
    exact rg_zret rfl (by decide)
-- RentByTheWheel.peg(II)I (0, None, None)
def d_X_peg (x1 : Int32) (x2 : Int32) (V : ai_V) : Option (Int32 × ai_V) :=
  if x1 < 0 then (some ((-1 : Int32), V)) else (if (9 : Int32) < x1 then (some ((-1 : Int32), V)) else (if x2 < (-1 : Int32) then (some ((-1 : Int32), V)) else (if x2 ≤ (18 : Int32) then ((d_Pegs_add x1 x2 V).bind fun q1 => (if q1.1 = 0 then (some ((-2 : Int32), q1.2)) else (some ((gi q1.2 78 1), q1.2)))) else (some ((-1 : Int32), V)))))
set_option maxRecDepth 20000 in
theorem t_X_peg {X : ai_S} {e : Nat} (hd : 1 ≤ e) {x1 : Int32} {x2 : Int32} {V : ai_V} {r : (Int32 × ai_V)} (h : d_X_peg x1 x2 V = some r) : Rn e 140 0 (lv_args 0 [.ref 0, .int x1, .int x2]) [] (SH ++ X) V (some (.int r.1)) (SH ++ X) r.2 := by
  rw [d_X_peg] at h
  refine rn_go 1 (pc' := 1) (l' := [(0, .ref 0), (1, .int x1), (2, .int x2)]) (st' := [.int x1]) (S1 := (SH ++ X)) (V1 := V) rfl ?_
  rcases ai_if h with ⟨hc, h⟩ | ⟨hc, h⟩
  · refine rn_brT rfl rfl rfl rfl hc ?_
    refine rn_go 1 (pc' := 22) (l' := [(0, .ref 0), (1, .int x1), (2, .int x2)]) (st' := [.int (-1 : Int32)]) (S1 := (SH ++ X)) (V1 := V) rfl ?_
    obtain rfl := Option.some.inj h
    exact rn_ret rfl rfl rfl
  · refine rn_brF rfl rfl rfl rfl hc ?_
    refine rn_go 2 (pc' := 7) (l' := [(0, .ref 0), (1, .int x1), (2, .int x2)]) (st' := [.int (9 : Int32), .int x1]) (S1 := (SH ++ X)) (V1 := V) rfl ?_
    rcases ai_if h with ⟨hc, h⟩ | ⟨hc, h⟩
    · refine rn_brT rfl rfl rfl rfl hc ?_
      refine rn_go 1 (pc' := 22) (l' := [(0, .ref 0), (1, .int x1), (2, .int x2)]) (st' := [.int (-1 : Int32)]) (S1 := (SH ++ X)) (V1 := V) rfl ?_
      obtain rfl := Option.some.inj h
      exact rn_ret rfl rfl rfl
    · refine rn_brF rfl rfl rfl rfl hc ?_
      refine rn_go 2 (pc' := 12) (l' := [(0, .ref 0), (1, .int x1), (2, .int x2)]) (st' := [.int (-1 : Int32), .int x2]) (S1 := (SH ++ X)) (V1 := V) rfl ?_
      rcases ai_if h with ⟨hc, h⟩ | ⟨hc, h⟩
      · refine rn_brT rfl rfl rfl rfl hc ?_
        refine rn_go 1 (pc' := 22) (l' := [(0, .ref 0), (1, .int x1), (2, .int x2)]) (st' := [.int (-1 : Int32)]) (S1 := (SH ++ X)) (V1 := V) rfl ?_
        obtain rfl := Option.some.inj h
        exact rn_ret rfl rfl rfl
      · refine rn_brF rfl rfl rfl rfl hc ?_
        refine rn_go 2 (pc' := 18) (l' := [(0, .ref 0), (1, .int x1), (2, .int x2)]) (st' := [.int (18 : Int32), .int x2]) (S1 := (SH ++ X)) (V1 := V) rfl ?_
        rcases ai_if h with ⟨hc, h⟩ | ⟨hc, h⟩
        · refine rn_brT rfl rfl rfl rfl hc ?_
          refine rn_go 4 (pc' := 29) (l' := [(0, .ref 0), (1, .int x1), (2, .int x2)]) (st' := [.int x2, .int x1, .ref 78]) (S1 := (SH ++ X)) (V1 := V) rfl ?_
          obtain ⟨q1, hq1, h⟩ := ai_bd h
          refine rn_call rfl rfl rfl rfl rfl rfl (by omega) (t_Pegs_add (by omega) hq1) ?_
          rcases ai_if h with ⟨hc, h⟩ | ⟨hc, h⟩
          · refine rn_brT rfl rfl rfl rfl hc ?_
            refine rn_go 1 (pc' := 47) (l' := [(0, .ref 0), (1, .int x1), (2, .int x2)]) (st' := [.int (-2 : Int32)]) (S1 := (SH ++ X)) (V1 := q1.2) rfl ?_
            obtain rfl := Option.some.inj h
            exact rn_ret rfl rfl rfl
          · refine rn_brF rfl rfl rfl rfl hc ?_
            refine rn_go 4 (pc' := 47) (l' := [(0, .ref 0), (1, .int x1), (2, .int x2)]) (st' := [.int (gi q1.2 78 1)]) (S1 := (SH ++ X)) (V1 := q1.2) rfl ?_
            obtain rfl := Option.some.inj h
            exact rn_ret rfl rfl rfl
        · refine rn_brF rfl rfl rfl rfl hc ?_
          refine rn_go 1 (pc' := 22) (l' := [(0, .ref 0), (1, .int x1), (2, .int x2)]) (st' := [.int (-1 : Int32)]) (S1 := (SH ++ X)) (V1 := V) rfl ?_
          obtain rfl := Option.some.inj h
          exact rn_ret rfl rfl rfl
-- RentByTheWheel.forget()I (0,)
def d_X_forget  (V : ai_V) : Option (Int32 × ai_V) :=
  some ((gi V 78 1), (si V 78 1 (0 : Int32)))
set_option maxRecDepth 20000 in
theorem t_X_forget {X : ai_S} {e : Nat} (hd : 0 ≤ e)  {V : ai_V} {r : (Int32 × ai_V)} (h : d_X_forget  V = some r) : Rn e 141 0 (lv_args 0 [.ref 0]) [] (SH ++ X) V (some (.int r.1)) (SH ++ X) r.2 := by
  rw [d_X_forget] at h
  refine rn_go 9 (pc' := 17) (l' := [(1, .int (gi V 78 1)), (0, .ref 0)]) (st' := [.int (gi V 78 1)]) (S1 := (SH ++ X)) (V1 := (si V 78 1 (0 : Int32))) rfl ?_
  obtain rfl := Option.some.inj h
  exact rn_ret rfl rfl rfl
-- RentByTheWheel$Pegs.agrees(II)Z (78, None, None)
def d_Pegs_agrees_114   (V : ai_V) : Option Int32 :=
  some (1 : Int32)
set_option maxRecDepth 20000 in
theorem t_Pegs_agrees_114 {X : ai_S} {e : Nat} (hd : 0 ≤ e)   (V : ai_V) (r : Int32) (h : d_Pegs_agrees_114   V = some r) : Rn e 49 114 [] [] (SH ++ X) V (some (.int r)) (SH ++ X) V := by
  rw [d_Pegs_agrees_114] at h
  refine rn_go 2 (pc' := 119) (l' := []) (st' := [.int (1 : Int32)]) (S1 := (SH ++ X)) (V1 := V) rfl ?_
  obtain rfl := Option.some.inj h
  exact rg_zret rfl (by decide)
def d_Pegs_agrees_77 (F8 : Int32 → Int32 → Int32 → Int32 → Int32 → ai_V → Option Int32) (x1 : Int32) (x2 : Int32) (x3 : Int32) (x4 : Int32) (x5 : Int32) (V : ai_V) : Option Int32 :=
  F8 x1 x2 x3 x4 (x5 + (1 : Int32)) V
set_option maxRecDepth 20000 in
theorem t_Pegs_agrees_77 {X : ai_S} {e : Nat} (hd : 0 ≤ e) (F8 : Int32 → Int32 → Int32 → Int32 → Int32 → ai_V → Option Int32) (hF8 : ∀ (x1 : Int32) (x2 : Int32) (x3 : Int32) (x4 : Int32) (x5 : Int32) (V : ai_V) (r : Int32), F8 x1 x2 x3 x4 x5 V = some r → Rn e 49 8 [(0, .ref 78), (1, .int x1), (2, .int x2), (3, .int x3), (4, .int x4), (5, .int x5)] [] (SH ++ X) V (some (.int r)) (SH ++ X) V) (x1 : Int32) (x2 : Int32) (x3 : Int32) (x4 : Int32) (x5 : Int32) (V : ai_V) (r : Int32) (h : d_Pegs_agrees_77 F8 x1 x2 x3 x4 x5 V = some r) : Rn e 49 77 [(0, .ref 78), (1, .int x1), (2, .int x2), (3, .int x3), (4, .int x4), (5, .int x5)] [] (SH ++ X) V (some (.int r)) (SH ++ X) V := by
  rw [d_Pegs_agrees_77] at h
  refine rn_go 2 (pc' := 8) (l' := [(5, .int (x5 + (1 : Int32))), (0, .ref 78), (1, .int x1), (2, .int x2), (3, .int x3), (4, .int x4)]) (st' := []) (S1 := (SH ++ X)) (V1 := V) rfl ?_
  exact rn_sub [1, 2, 3, 4, 5, 0] rfl rfl (hF8 x1 x2 x3 x4 (x5 + (1 : Int32)) V _ h)
def d_Pegs_agrees_61 (F8 : Int32 → Int32 → Int32 → Int32 → Int32 → ai_V → Option Int32) (x1 : Int32) (x2 : Int32) (x4 : Int32) (x5 : Int32) (s0 : Int32) (V : ai_V) : Option Int32 :=
  if ai_in x5 6 then (d_Pegs_agrees_77 F8 x1 x2 s0 (x4 + (ga V 6 (x5).toNatClampNeg)) x5 V) else none
set_option maxRecDepth 20000 in
theorem t_Pegs_agrees_61 {X : ai_S} {e : Nat} (hd : 0 ≤ e) (F8 : Int32 → Int32 → Int32 → Int32 → Int32 → ai_V → Option Int32) (hF8 : ∀ (x1 : Int32) (x2 : Int32) (x3 : Int32) (x4 : Int32) (x5 : Int32) (V : ai_V) (r : Int32), F8 x1 x2 x3 x4 x5 V = some r → Rn e 49 8 [(0, .ref 78), (1, .int x1), (2, .int x2), (3, .int x3), (4, .int x4), (5, .int x5)] [] (SH ++ X) V (some (.int r)) (SH ++ X) V) (x1 : Int32) (x2 : Int32) (x4 : Int32) (x5 : Int32) (s0 : Int32) (V : ai_V) (r : Int32) (h : d_Pegs_agrees_61 F8 x1 x2 x4 x5 s0 V = some r) : Rn e 49 61 [(0, .ref 78), (1, .int x1), (2, .int x2), (4, .int x4), (5, .int x5)] [.int s0] (SH ++ X) V (some (.int r)) (SH ++ X) V := by
  rw [d_Pegs_agrees_61] at h
  refine rn_go 6 (pc' := 73) (l' := [(3, .int s0), (0, .ref 78), (1, .int x1), (2, .int x2), (4, .int x4), (5, .int x5)]) (st' := [.int x5, .ref 6, .int x4]) (S1 := (SH ++ X)) (V1 := V) rfl ?_
  obtain ⟨hg, h⟩ := ai_gd h
  refine rg_iald (n := 6) rfl rfl hg ?_
  refine rn_go 2 (pc' := 77) (l' := [(4, .int (x4 + (ga V 6 (x5).toNatClampNeg))), (3, .int s0), (0, .ref 78), (1, .int x1), (2, .int x2), (5, .int x5)]) (st' := []) (S1 := (SH ++ X)) (V1 := V) rfl ?_
  exact rn_sub [2, 3, 4, 1, 0, 5] rfl rfl (t_Pegs_agrees_77 (X := X) hd F8 hF8 x1 x2 s0 (x4 + (ga V 6 (x5).toNatClampNeg)) x5 V _ h)
def d_Pegs_agrees_8  : Nat → Int32 → Int32 → Int32 → Int32 → Int32 → ai_V → Option Int32
  | 0, _, _, _, _, _, _ => none
  | n + 1, x1, x2, x3, x4, x5, V => if (gi V 3 0) ≤ x5 then (if ai_in x2 12 then (if ¬ x3 = (ga V 80 (x2).toNatClampNeg) then (some (0 : Int32)) else (if ai_in x2 12 then (if (ga V 81 (x2).toNatClampNeg) = (-1 : Int32) then (d_Pegs_agrees_114 V) else (if ai_in x2 12 then (if ¬ (ga V 81 (x2).toNatClampNeg) = x4 then (some (0 : Int32)) else (d_Pegs_agrees_114 V)) else none)) else none)) else none) else (if ¬ ((x1 >>> (x5 &&& 31)) &&& (1 : Int32)) = (1 : Int32) then (d_Pegs_agrees_77 (d_Pegs_agrees_8 n) x1 x2 x3 x4 x5 V) else (if ¬ x3 = 0 then (if ai_in x5 6 then (d_Pegs_agrees_61 (d_Pegs_agrees_8 n) x1 x2 x4 x5 (ai_min x3 (ga V 5 (x5).toNatClampNeg)) V) else none) else (if ai_in x5 6 then (d_Pegs_agrees_61 (d_Pegs_agrees_8 n) x1 x2 x4 x5 (ga V 5 (x5).toNatClampNeg) V) else none)))
set_option maxRecDepth 20000 in
theorem t_Pegs_agrees_8 {X : ai_S} {e : Nat} (hd : 0 ≤ e)  : ∀ (n : Nat) (x1 : Int32) (x2 : Int32) (x3 : Int32) (x4 : Int32) (x5 : Int32) (V : ai_V) (r : Int32), d_Pegs_agrees_8  n x1 x2 x3 x4 x5 V = some r → Rn e 49 8 [(0, .ref 78), (1, .int x1), (2, .int x2), (3, .int x3), (4, .int x4), (5, .int x5)] [] (SH ++ X) V (some (.int r)) (SH ++ X) V := by
  intro n
  induction n with
  | zero =>
    intro x1 x2 x3 x4 x5 V r h
    cases h
  | succ n ih =>
    intro x1 x2 x3 x4 x5 V r h
    rw [d_Pegs_agrees_8] at h
    refine rn_go 4 (pc' := 17) (l' := [(0, .ref 78), (1, .int x1), (2, .int x2), (3, .int x3), (4, .int x4), (5, .int x5)]) (st' := [.int (gi V 3 0), .int x5]) (S1 := (SH ++ X)) (V1 := V) rfl ?_
    rcases ai_if h with ⟨hc, h⟩ | ⟨hc, h⟩
    · refine rn_brT rfl rfl rfl rfl hc ?_
      refine rn_go 4 (pc' := 89) (l' := [(0, .ref 78), (1, .int x1), (2, .int x2), (3, .int x3), (4, .int x4), (5, .int x5)]) (st' := [.int x2, .ref 80, .int x3]) (S1 := (SH ++ X)) (V1 := V) rfl ?_
      obtain ⟨hg, h⟩ := ai_gd h
      refine rg_iald (n := 12) rfl rfl hg ?_
      rcases ai_if h with ⟨hc, h⟩ | ⟨hc, h⟩
      · refine rn_brT rfl rfl rfl rfl hc ?_
        refine rn_go 1 (pc' := 119) (l' := [(0, .ref 78), (1, .int x1), (2, .int x2), (3, .int x3), (4, .int x4), (5, .int x5)]) (st' := [.int (0 : Int32)]) (S1 := (SH ++ X)) (V1 := V) rfl ?_
        obtain rfl := Option.some.inj h
        exact rg_zret rfl (by decide)
      · refine rn_brF rfl rfl rfl rfl hc ?_
        refine rn_go 3 (pc' := 98) (l' := [(0, .ref 78), (1, .int x1), (2, .int x2), (3, .int x3), (4, .int x4), (5, .int x5)]) (st' := [.int x2, .ref 81]) (S1 := (SH ++ X)) (V1 := V) rfl ?_
        obtain ⟨hg, h⟩ := ai_gd h
        refine rg_iald (n := 12) rfl rfl hg ?_
        refine rn_go 1 (pc' := 100) (l' := [(0, .ref 78), (1, .int x1), (2, .int x2), (3, .int x3), (4, .int x4), (5, .int x5)]) (st' := [.int (-1 : Int32), .int (ga V 81 (x2).toNatClampNeg)]) (S1 := (SH ++ X)) (V1 := V) rfl ?_
        rcases ai_if h with ⟨hc, h⟩ | ⟨hc, h⟩
        · refine rn_brT rfl rfl rfl rfl hc ?_
          exact rn_sub [] rfl rfl (t_Pegs_agrees_114 (X := X) hd V _ h)
        · refine rn_brF rfl rfl rfl rfl hc ?_
          refine rn_go 3 (pc' := 108) (l' := [(0, .ref 78), (1, .int x1), (2, .int x2), (3, .int x3), (4, .int x4), (5, .int x5)]) (st' := [.int x2, .ref 81]) (S1 := (SH ++ X)) (V1 := V) rfl ?_
          obtain ⟨hg, h⟩ := ai_gd h
          refine rg_iald (n := 12) rfl rfl hg ?_
          refine rn_go 1 (pc' := 111) (l' := [(0, .ref 78), (1, .int x1), (2, .int x2), (3, .int x3), (4, .int x4), (5, .int x5)]) (st' := [.int x4, .int (ga V 81 (x2).toNatClampNeg)]) (S1 := (SH ++ X)) (V1 := V) rfl ?_
          rcases ai_if h with ⟨hc, h⟩ | ⟨hc, h⟩
          · refine rn_brT rfl rfl rfl rfl hc ?_
            refine rn_go 1 (pc' := 119) (l' := [(0, .ref 78), (1, .int x1), (2, .int x2), (3, .int x3), (4, .int x4), (5, .int x5)]) (st' := [.int (0 : Int32)]) (S1 := (SH ++ X)) (V1 := V) rfl ?_
            obtain rfl := Option.some.inj h
            exact rg_zret rfl (by decide)
          · refine rn_brF rfl rfl rfl rfl hc ?_
            exact rn_sub [] rfl rfl (t_Pegs_agrees_114 (X := X) hd V _ h)
    · refine rn_brF rfl rfl rfl rfl hc ?_
      refine rn_go 6 (pc' := 27) (l' := [(0, .ref 78), (1, .int x1), (2, .int x2), (3, .int x3), (4, .int x4), (5, .int x5)]) (st' := [.int (1 : Int32), .int ((x1 >>> (x5 &&& 31)) &&& (1 : Int32))]) (S1 := (SH ++ X)) (V1 := V) rfl ?_
      rcases ai_if h with ⟨hc, h⟩ | ⟨hc, h⟩
      · refine rn_brT rfl rfl rfl rfl hc ?_
        exact rn_sub [0, 1, 2, 3, 4, 5] rfl rfl (t_Pegs_agrees_77 (X := X) hd (d_Pegs_agrees_8 n) (ih) x1 x2 x3 x4 x5 V _ h)
      · refine rn_brF rfl rfl rfl rfl hc ?_
        refine rn_go 1 (pc' := 31) (l' := [(0, .ref 78), (1, .int x1), (2, .int x2), (3, .int x3), (4, .int x4), (5, .int x5)]) (st' := [.int x3]) (S1 := (SH ++ X)) (V1 := V) rfl ?_
        rcases ai_if h with ⟨hc, h⟩ | ⟨hc, h⟩
        · refine rn_brT rfl rfl rfl rfl hc ?_
          refine rn_go 5 (pc' := 57) (l' := [(0, .ref 78), (1, .int x1), (2, .int x2), (3, .int x3), (4, .int x4), (5, .int x5)]) (st' := [.int x5, .ref 5, .int x3]) (S1 := (SH ++ X)) (V1 := V) rfl ?_
          obtain ⟨hg, h⟩ := ai_gd h
          refine rg_iald (n := 6) rfl rfl hg ?_
          refine rn_go 1 (pc' := 61) (l' := [(0, .ref 78), (1, .int x1), (2, .int x2), (3, .int x3), (4, .int x4), (5, .int x5)]) (st' := [.int (ai_min x3 (ga V 5 (x5).toNatClampNeg))]) (S1 := (SH ++ X)) (V1 := V) rfl ?_
          exact rn_sub [0, 1, 2, 4, 5] rfl rfl (t_Pegs_agrees_61 (X := X) hd (d_Pegs_agrees_8 n) (ih) x1 x2 x4 x5 (ai_min x3 (ga V 5 (x5).toNatClampNeg)) V _ h)
        · refine rn_brF rfl rfl rfl rfl hc ?_
          refine rn_go 4 (pc' := 43) (l' := [(0, .ref 78), (1, .int x1), (2, .int x2), (3, .int x3), (4, .int x4), (5, .int x5)]) (st' := [.int x5, .ref 5]) (S1 := (SH ++ X)) (V1 := V) rfl ?_
          obtain ⟨hg, h⟩ := ai_gd h
          refine rg_iald (n := 6) rfl rfl hg ?_
          refine rn_go 1 (pc' := 61) (l' := [(0, .ref 78), (1, .int x1), (2, .int x2), (3, .int x3), (4, .int x4), (5, .int x5)]) (st' := [.int (ga V 5 (x5).toNatClampNeg)]) (S1 := (SH ++ X)) (V1 := V) rfl ?_
          exact rn_sub [0, 1, 2, 4, 5] rfl rfl (t_Pegs_agrees_61 (X := X) hd (d_Pegs_agrees_8 n) (ih) x1 x2 x4 x5 (ga V 5 (x5).toNatClampNeg) V _ h)
def d_Pegs_agrees (x1 : Int32) (x2 : Int32) (V : ai_V) : Option Int32 :=
  d_Pegs_agrees_8 ai_N x1 x2 (0 : Int32) (0 : Int32) (0 : Int32) V
set_option maxRecDepth 20000 in
theorem t_Pegs_agrees {X : ai_S} {e : Nat} (hd : 0 ≤ e) {x1 : Int32} {x2 : Int32} {V : ai_V} {r : Int32} (h : d_Pegs_agrees x1 x2 V = some r) : Rn e 49 0 (lv_args 0 [.ref 78, .int x1, .int x2]) [] (SH ++ X) V (some (.int r)) (SH ++ X) V := by
  rw [d_Pegs_agrees] at h
  refine rn_go 6 (pc' := 8) (l' := [(5, .int (0 : Int32)), (4, .int (0 : Int32)), (3, .int (0 : Int32)), (0, .ref 78), (1, .int x1), (2, .int x2)]) (st' := []) (S1 := (SH ++ X)) (V1 := V) rfl ?_
  exact rn_sub [3, 4, 5, 2, 1, 0] rfl rfl (t_Pegs_agrees_8 (X := X) hd ai_N x1 x2 (0 : Int32) (0 : Int32) (0 : Int32) V _ h)
-- RentByTheWheel$Pegs.findSets(I)I (78, None)
def d_Pegs_findSets_66 (F7 : Int32 → Int32 → ai_V → Option (Int32 × ai_V)) (x1 : Int32) (x2 : Int32) (V : ai_V) : Option (Int32 × ai_V) :=
  F7 x1 (x2 + (1 : Int32)) V
set_option maxRecDepth 20000 in
theorem t_Pegs_findSets_66 {X : ai_S} {e : Nat} (hd : 1 ≤ e) (F7 : Int32 → Int32 → ai_V → Option (Int32 × ai_V)) (hF7 : ∀ (x1 : Int32) (x2 : Int32) (V : ai_V) (r : (Int32 × ai_V)), F7 x1 x2 V = some r → Rn e 50 7 [(0, .ref 78), (1, .int x1), (2, .int x2)] [] (SH ++ X) V (some (.int r.1)) (SH ++ X) r.2) (x1 : Int32) (x2 : Int32) (V : ai_V) (r : (Int32 × ai_V)) (h : d_Pegs_findSets_66 F7 x1 x2 V = some r) : Rn e 50 66 [(0, .ref 78), (1, .int x1), (2, .int x2)] [] (SH ++ X) V (some (.int r.1)) (SH ++ X) r.2 := by
  rw [d_Pegs_findSets_66] at h
  refine rn_go 2 (pc' := 7) (l' := [(2, .int (x2 + (1 : Int32))), (0, .ref 78), (1, .int x1)]) (st' := []) (S1 := (SH ++ X)) (V1 := V) rfl ?_
  exact rn_sub [1, 2, 0] rfl rfl (hF7 x1 (x2 + (1 : Int32)) V _ h)
def d_Pegs_findSets_7  : Nat → Int32 → Int32 → ai_V → Option (Int32 × ai_V)
  | 0, _, _, _ => none
  | n + 1, x1, x2, V => if ((1 : Int32) <<< ((gi V 3 0) &&& 31)) ≤ x2 then (some ((gi V 78 3), V)) else ((d_Int_bitCount x2 V).bind fun q1 => (if (2 : Int32) < q1 then (d_Pegs_findSets_66 (d_Pegs_findSets_7 n) x1 x2 V) else (if (22 : Int32) ≤ (gi V 78 3) then (d_Pegs_findSets_66 (d_Pegs_findSets_7 n) x1 x2 V) else ((d_Pegs_agrees x2 x1 V).bind fun q2 => (if q2 = 0 then (d_Pegs_findSets_66 (d_Pegs_findSets_7 n) x1 x2 V) else (if ai_in (gi V 78 3) 22 then (d_Pegs_findSets_66 (d_Pegs_findSets_7 n) x1 x2 (si (sa V 79 ((gi V 78 3)).toNatClampNeg x2) 78 3 ((gi (sa V 79 ((gi V 78 3)).toNatClampNeg x2) 78 3) + (1 : Int32)))) else none))))))
set_option maxRecDepth 20000 in
theorem t_Pegs_findSets_7 {X : ai_S} {e : Nat} (hd : 1 ≤ e)  : ∀ (n : Nat) (x1 : Int32) (x2 : Int32) (V : ai_V) (r : (Int32 × ai_V)), d_Pegs_findSets_7  n x1 x2 V = some r → Rn e 50 7 [(0, .ref 78), (1, .int x1), (2, .int x2)] [] (SH ++ X) V (some (.int r.1)) (SH ++ X) r.2 := by
  intro n
  induction n with
  | zero =>
    intro x1 x2 V r h
    cases h
  | succ n ih =>
    intro x1 x2 V r h
    rw [d_Pegs_findSets_7] at h
    refine rn_go 6 (pc' := 17) (l' := [(0, .ref 78), (1, .int x1), (2, .int x2)]) (st' := [.int ((1 : Int32) <<< ((gi V 3 0) &&& 31)), .int x2]) (S1 := (SH ++ X)) (V1 := V) rfl ?_
    rcases ai_if h with ⟨hc, h⟩ | ⟨hc, h⟩
    · refine rn_brT rfl rfl rfl rfl hc ?_
      refine rn_go 2 (pc' := 76) (l' := [(0, .ref 78), (1, .int x1), (2, .int x2)]) (st' := [.int (gi V 78 3)]) (S1 := (SH ++ X)) (V1 := V) rfl ?_
      obtain rfl := Option.some.inj h
      exact rn_ret rfl rfl rfl
    · refine rn_brF rfl rfl rfl rfl hc ?_
      refine rn_go 1 (pc' := 21) (l' := [(0, .ref 78), (1, .int x1), (2, .int x2)]) (st' := [.int x2]) (S1 := (SH ++ X)) (V1 := V) rfl ?_
      obtain ⟨q1, hq1, h⟩ := ai_bd h
      refine rn_call rfl rfl rfl rfl rfl rfl (by omega) (t_Int_bitCount (by omega) hq1) ?_
      refine rn_go 1 (pc' := 25) (l' := [(0, .ref 78), (1, .int x1), (2, .int x2)]) (st' := [.int (2 : Int32), .int q1]) (S1 := (SH ++ X)) (V1 := V) rfl ?_
      rcases ai_if h with ⟨hc, h⟩ | ⟨hc, h⟩
      · refine rn_brT rfl rfl rfl rfl hc ?_
        exact rn_sub [0, 1, 2] rfl rfl (t_Pegs_findSets_66 (X := X) hd (d_Pegs_findSets_7 n) (ih) x1 x2 V _ h)
      · refine rn_brF rfl rfl rfl rfl hc ?_
        refine rn_go 3 (pc' := 34) (l' := [(0, .ref 78), (1, .int x1), (2, .int x2)]) (st' := [.int (22 : Int32), .int (gi V 78 3)]) (S1 := (SH ++ X)) (V1 := V) rfl ?_
        rcases ai_if h with ⟨hc, h⟩ | ⟨hc, h⟩
        · refine rn_brT rfl rfl rfl rfl hc ?_
          exact rn_sub [0, 1, 2] rfl rfl (t_Pegs_findSets_66 (X := X) hd (d_Pegs_findSets_7 n) (ih) x1 x2 V _ h)
        · refine rn_brF rfl rfl rfl rfl hc ?_
          refine rn_go 3 (pc' := 40) (l' := [(0, .ref 78), (1, .int x1), (2, .int x2)]) (st' := [.int x1, .int x2, .ref 78]) (S1 := (SH ++ X)) (V1 := V) rfl ?_
          obtain ⟨q2, hq2, h⟩ := ai_bd h
          refine rn_call rfl rfl rfl rfl rfl rfl (by omega) (t_Pegs_agrees (by omega) hq2) ?_
          rcases ai_if h with ⟨hc, h⟩ | ⟨hc, h⟩
          · refine rn_brT rfl rfl rfl rfl hc ?_
            exact rn_sub [0, 1, 2] rfl rfl (t_Pegs_findSets_66 (X := X) hd (d_Pegs_findSets_7 n) (ih) x1 x2 V _ h)
          · refine rn_brF rfl rfl rfl rfl hc ?_
            refine rn_go 5 (pc' := 55) (l' := [(0, .ref 78), (1, .int x1), (2, .int x2)]) (st' := [.int x2, .int (gi V 78 3), .ref 79]) (S1 := (SH ++ X)) (V1 := V) rfl ?_
            obtain ⟨hg, h⟩ := ai_gd h
            refine rg_iast (n := 22) rfl rfl hg ?_
            refine rn_go 6 (pc' := 66) (l' := [(0, .ref 78), (1, .int x1), (2, .int x2)]) (st' := []) (S1 := (SH ++ X)) (V1 := (si (sa V 79 ((gi V 78 3)).toNatClampNeg x2) 78 3 ((gi (sa V 79 ((gi V 78 3)).toNatClampNeg x2) 78 3) + (1 : Int32)))) rfl ?_
            exact rn_sub [0, 1, 2] rfl rfl (t_Pegs_findSets_66 (X := X) hd (d_Pegs_findSets_7 n) (ih) x1 x2 (si (sa V 79 ((gi V 78 3)).toNatClampNeg x2) 78 3 ((gi (sa V 79 ((gi V 78 3)).toNatClampNeg x2) 78 3) + (1 : Int32))) _ h)
def d_Pegs_findSets (x1 : Int32) (V : ai_V) : Option (Int32 × ai_V) :=
  d_Pegs_findSets_7 ai_N x1 (0 : Int32) (si V 78 3 (0 : Int32))
set_option maxRecDepth 20000 in
theorem t_Pegs_findSets {X : ai_S} {e : Nat} (hd : 1 ≤ e) {x1 : Int32} {V : ai_V} {r : (Int32 × ai_V)} (h : d_Pegs_findSets x1 V = some r) : Rn e 50 0 (lv_args 0 [.ref 78, .int x1]) [] (SH ++ X) V (some (.int r.1)) (SH ++ X) r.2 := by
  rw [d_Pegs_findSets] at h
  refine rn_go 5 (pc' := 7) (l' := [(2, .int (0 : Int32)), (0, .ref 78), (1, .int x1)]) (st' := []) (S1 := (SH ++ X)) (V1 := (si V 78 3 (0 : Int32))) rfl ?_
  exact rn_sub [1, 2, 0] rfl rfl (t_Pegs_findSets_7 (X := X) hd ai_N x1 (0 : Int32) (si V 78 3 (0 : Int32)) _ h)
-- RentByTheWheel$Pegs.inSome()I (78,)
def d_Pegs_inSome_4  : Nat → Int32 → Int32 → ai_V → Option Int32
  | 0, _, _, _ => none
  | n + 1, x1, x2, V => if (gi V 78 3) ≤ x2 then (some x1) else (if ai_in x2 22 then (d_Pegs_inSome_4 n (x1 ||| (ga V 79 (x2).toNatClampNeg)) (x2 + (1 : Int32)) V) else none)
set_option maxRecDepth 20000 in
theorem t_Pegs_inSome_4 {X : ai_S} {e : Nat} (hd : 0 ≤ e)  : ∀ (n : Nat) (x1 : Int32) (x2 : Int32) (V : ai_V) (r : Int32), d_Pegs_inSome_4  n x1 x2 V = some r → Rn e 51 4 [(0, .ref 78), (1, .int x1), (2, .int x2)] [] (SH ++ X) V (some (.int r)) (SH ++ X) V := by
  intro n
  induction n with
  | zero =>
    intro x1 x2 V r h
    cases h
  | succ n ih =>
    intro x1 x2 V r h
    rw [d_Pegs_inSome_4] at h
    refine rn_go 3 (pc' := 9) (l' := [(0, .ref 78), (1, .int x1), (2, .int x2)]) (st' := [.int (gi V 78 3), .int x2]) (S1 := (SH ++ X)) (V1 := V) rfl ?_
    rcases ai_if h with ⟨hc, h⟩ | ⟨hc, h⟩
    · refine rn_brT rfl rfl rfl rfl hc ?_
      refine rn_go 1 (pc' := 28) (l' := [(0, .ref 78), (1, .int x1), (2, .int x2)]) (st' := [.int x1]) (S1 := (SH ++ X)) (V1 := V) rfl ?_
      obtain rfl := Option.some.inj h
      exact rn_ret rfl rfl rfl
    · refine rn_brF rfl rfl rfl rfl hc ?_
      refine rn_go 4 (pc' := 18) (l' := [(0, .ref 78), (1, .int x1), (2, .int x2)]) (st' := [.int x2, .ref 79, .int x1]) (S1 := (SH ++ X)) (V1 := V) rfl ?_
      obtain ⟨hg, h⟩ := ai_gd h
      refine rg_iald (n := 22) rfl rfl hg ?_
      refine rn_go 4 (pc' := 4) (l' := [(2, .int (x2 + (1 : Int32))), (1, .int (x1 ||| (ga V 79 (x2).toNatClampNeg))), (0, .ref 78)]) (st' := []) (S1 := (SH ++ X)) (V1 := V) rfl ?_
      exact rn_sub [2, 1, 0] rfl rfl (ih (x1 ||| (ga V 79 (x2).toNatClampNeg)) (x2 + (1 : Int32)) V _ h)
def d_Pegs_inSome  (V : ai_V) : Option Int32 :=
  d_Pegs_inSome_4 ai_N (0 : Int32) (0 : Int32) V
set_option maxRecDepth 20000 in
theorem t_Pegs_inSome {X : ai_S} {e : Nat} (hd : 0 ≤ e)  {V : ai_V} {r : Int32} (h : d_Pegs_inSome  V = some r) : Rn e 51 0 (lv_args 0 [.ref 78]) [] (SH ++ X) V (some (.int r)) (SH ++ X) V := by
  rw [d_Pegs_inSome] at h
  refine rn_go 4 (pc' := 4) (l' := [(2, .int (0 : Int32)), (1, .int (0 : Int32)), (0, .ref 78)]) (st' := []) (S1 := (SH ++ X)) (V1 := V) rfl ?_
  exact rn_sub [2, 1, 0] rfl rfl (t_Pegs_inSome_4 (X := X) hd ai_N (0 : Int32) (0 : Int32) V _ h)
-- RentByTheWheel$Pegs.inAll()I (78,)
def d_Pegs_inAll_20  : Nat → Int32 → Int32 → ai_V → Option Int32
  | 0, _, _, _ => none
  | n + 1, x1, x2, V => if (gi V 78 3) ≤ x2 then (some x1) else (if ai_in x2 22 then (d_Pegs_inAll_20 n (x1 &&& (ga V 79 (x2).toNatClampNeg)) (x2 + (1 : Int32)) V) else none)
set_option maxRecDepth 20000 in
theorem t_Pegs_inAll_20 {X : ai_S} {e : Nat} (hd : 0 ≤ e)  : ∀ (n : Nat) (x1 : Int32) (x2 : Int32) (V : ai_V) (r : Int32), d_Pegs_inAll_20  n x1 x2 V = some r → Rn e 52 20 [(0, .ref 78), (1, .int x1), (2, .int x2)] [] (SH ++ X) V (some (.int r)) (SH ++ X) V := by
  intro n
  induction n with
  | zero =>
    intro x1 x2 V r h
    cases h
  | succ n ih =>
    intro x1 x2 V r h
    rw [d_Pegs_inAll_20] at h
    refine rn_go 3 (pc' := 25) (l' := [(0, .ref 78), (1, .int x1), (2, .int x2)]) (st' := [.int (gi V 78 3), .int x2]) (S1 := (SH ++ X)) (V1 := V) rfl ?_
    rcases ai_if h with ⟨hc, h⟩ | ⟨hc, h⟩
    · refine rn_brT rfl rfl rfl rfl hc ?_
      refine rn_go 1 (pc' := 44) (l' := [(0, .ref 78), (1, .int x1), (2, .int x2)]) (st' := [.int x1]) (S1 := (SH ++ X)) (V1 := V) rfl ?_
      obtain rfl := Option.some.inj h
      exact rn_ret rfl rfl rfl
    · refine rn_brF rfl rfl rfl rfl hc ?_
      refine rn_go 4 (pc' := 34) (l' := [(0, .ref 78), (1, .int x1), (2, .int x2)]) (st' := [.int x2, .ref 79, .int x1]) (S1 := (SH ++ X)) (V1 := V) rfl ?_
      obtain ⟨hg, h⟩ := ai_gd h
      refine rg_iald (n := 22) rfl rfl hg ?_
      refine rn_go 4 (pc' := 20) (l' := [(2, .int (x2 + (1 : Int32))), (1, .int (x1 &&& (ga V 79 (x2).toNatClampNeg))), (0, .ref 78)]) (st' := []) (S1 := (SH ++ X)) (V1 := V) rfl ?_
      exact rn_sub [2, 1, 0] rfl rfl (ih (x1 &&& (ga V 79 (x2).toNatClampNeg)) (x2 + (1 : Int32)) V _ h)
def d_Pegs_inAll_17  (s0 : Int32) (V : ai_V) : Option Int32 :=
  d_Pegs_inAll_20 ai_N s0 (1 : Int32) V
set_option maxRecDepth 20000 in
theorem t_Pegs_inAll_17 {X : ai_S} {e : Nat} (hd : 0 ≤ e)  (s0 : Int32) (V : ai_V) (r : Int32) (h : d_Pegs_inAll_17  s0 V = some r) : Rn e 52 17 [(0, .ref 78)] [.int s0] (SH ++ X) V (some (.int r)) (SH ++ X) V := by
  rw [d_Pegs_inAll_17] at h
  refine rn_go 3 (pc' := 20) (l' := [(2, .int (1 : Int32)), (1, .int s0), (0, .ref 78)]) (st' := []) (S1 := (SH ++ X)) (V1 := V) rfl ?_
  exact rn_sub [2, 1, 0] rfl rfl (t_Pegs_inAll_20 (X := X) hd ai_N s0 (1 : Int32) V _ h)
def d_Pegs_inAll  (V : ai_V) : Option Int32 :=
  if ¬ (gi V 78 3) = 0 then (d_Pegs_inAll_17 (ga V 79 ((0 : Int32)).toNatClampNeg) V) else (d_Pegs_inAll_17 (0 : Int32) V)
set_option maxRecDepth 20000 in
theorem t_Pegs_inAll {X : ai_S} {e : Nat} (hd : 0 ≤ e)  {V : ai_V} {r : Int32} (h : d_Pegs_inAll  V = some r) : Rn e 52 0 (lv_args 0 [.ref 78]) [] (SH ++ X) V (some (.int r)) (SH ++ X) V := by
  rw [d_Pegs_inAll] at h
  refine rn_go 2 (pc' := 4) (l' := [(0, .ref 78)]) (st' := [.int (gi V 78 3)]) (S1 := (SH ++ X)) (V1 := V) rfl ?_
  rcases ai_if h with ⟨hc, h⟩ | ⟨hc, h⟩
  · refine rn_brT rfl rfl rfl rfl hc ?_
    refine rn_go 3 (pc' := 16) (l' := [(0, .ref 78)]) (st' := [.int (0 : Int32), .ref 79]) (S1 := (SH ++ X)) (V1 := V) rfl ?_
    refine rg_iald (n := 22) rfl rfl (by decide) ?_
    exact rn_sub [0] rfl rfl (t_Pegs_inAll_17 (X := X) hd (ga V 79 ((0 : Int32)).toNatClampNeg) V _ h)
  · refine rn_brF rfl rfl rfl rfl hc ?_
    refine rn_go 2 (pc' := 17) (l' := [(0, .ref 78)]) (st' := [.int (0 : Int32)]) (S1 := (SH ++ X)) (V1 := V) rfl ?_
    exact rn_sub [0] rfl rfl (t_Pegs_inAll_17 (X := X) hd (0 : Int32) V _ h)
-- RentByTheWheel.trod()I (0,)
def d_X_trod_93  (x1 : Int32) (s0 : Int64) (s1 : Int64) (V : ai_V) : Option (Int32 × ai_V) :=
  (d_Row_tellTwo s1 s0 V).bind fun q1 => (some (x1, q1))
set_option maxRecDepth 20000 in
theorem t_X_trod_93 {X : ai_S} {e : Nat} (hd : 3 ≤ e)  (x1 : Int32) (s0 : Int64) (s1 : Int64) (V : ai_V) (r : (Int32 × ai_V)) (h : d_X_trod_93  x1 s0 s1 V = some r) : Rn e 142 93 [(1, .int x1)] [.long s0, .long s1, .ref 22] (SH ++ X) V (some (.int r.1)) (SH ++ X) r.2 := by
  rw [d_X_trod_93] at h
  obtain ⟨q1, hq1, h⟩ := ai_bd h
  refine rn_call rfl rfl rfl rfl rfl rfl (by omega) (t_Row_tellTwo (by omega) hq1) ?_
  refine rn_go 1 (pc' := 97) (l' := [(1, .int x1)]) (st' := [.int x1]) (S1 := (SH ++ X)) (V1 := q1) rfl ?_
  obtain rfl := Option.some.inj h
  exact rn_ret rfl rfl rfl
def d_X_trod_83  (x1 : Int32) (x3 : Int32) (s0 : Int64) (V : ai_V) : Option (Int32 × ai_V) :=
  if ¬ x1 = 0 then (d_X_trod_93 x1 (x3).toInt64 s0 V) else (d_X_trod_93 x1 (Int64.ofNat 0) s0 V)
set_option maxRecDepth 20000 in
theorem t_X_trod_83 {X : ai_S} {e : Nat} (hd : 3 ≤ e)  (x1 : Int32) (x3 : Int32) (s0 : Int64) (V : ai_V) (r : (Int32 × ai_V)) (h : d_X_trod_83  x1 x3 s0 V = some r) : Rn e 142 83 [(1, .int x1), (3, .int x3)] [.long s0, .ref 22] (SH ++ X) V (some (.int r.1)) (SH ++ X) r.2 := by
  rw [d_X_trod_83] at h
  refine rn_go 1 (pc' := 84) (l' := [(1, .int x1), (3, .int x3)]) (st' := [.int x1, .long s0, .ref 22]) (S1 := (SH ++ X)) (V1 := V) rfl ?_
  rcases ai_if h with ⟨hc, h⟩ | ⟨hc, h⟩
  · refine rn_brT rfl rfl rfl rfl hc ?_
    refine rn_go 2 (pc' := 93) (l' := [(1, .int x1), (3, .int x3)]) (st' := [.long (x3).toInt64, .long s0, .ref 22]) (S1 := (SH ++ X)) (V1 := V) rfl ?_
    exact rn_sub [0] rfl rfl (t_X_trod_93 (X := X) hd x1 (x3).toInt64 s0 V _ h)
  · refine rn_brF rfl rfl rfl rfl hc ?_
    refine rn_go 2 (pc' := 93) (l' := [(1, .int x1), (3, .int x3)]) (st' := [.long (Int64.ofNat 0), .long s0, .ref 22]) (S1 := (SH ++ X)) (V1 := V) rfl ?_
    exact rn_sub [0] rfl rfl (t_X_trod_93 (X := X) hd x1 (Int64.ofNat 0) s0 V _ h)
def d_X_trod_9  : Nat → Int32 → Int32 → Int32 → Int32 → ai_V → Option (Int32 × ai_V)
  | 0, _, _, _, _, _ => none
  | n + 1, x1, x2, x3, x4, V => if (gi V 78 1) ≤ x4 then (if ¬ x1 = 0 then (d_X_trod_83 x1 x3 (x2).toInt64 V) else (d_X_trod_83 x1 x3 (Int64.ofNat 0) V)) else ((d_Pegs_findSets x4 V).bind fun q2 => ((d_Pegs_inSome  q2.2).bind fun q3 => ((d_Pegs_inAll  q2.2).bind fun q4 => (d_X_trod_9 n (ai_min (1000000 : Int32) (x1 * q2.1)) (x2 ||| q3) (x3 ||| q4) (x4 + (1 : Int32)) q2.2))))
set_option maxRecDepth 20000 in
theorem t_X_trod_9 {X : ai_S} {e : Nat} (hd : 3 ≤ e)  : ∀ (n : Nat) (x1 : Int32) (x2 : Int32) (x3 : Int32) (x4 : Int32) (V : ai_V) (r : (Int32 × ai_V)), d_X_trod_9  n x1 x2 x3 x4 V = some r → Rn e 142 9 [(0, .ref 0), (1, .int x1), (2, .int x2), (3, .int x3), (4, .int x4)] [] (SH ++ X) V (some (.int r.1)) (SH ++ X) r.2 := by
  intro n
  induction n with
  | zero =>
    intro x1 x2 x3 x4 V r h
    cases h
  | succ n ih =>
    intro x1 x2 x3 x4 V r h
    rw [d_X_trod_9] at h
    refine rn_go 4 (pc' := 18) (l' := [(0, .ref 0), (1, .int x1), (2, .int x2), (3, .int x3), (4, .int x4)]) (st' := [.int (gi V 78 1), .int x4]) (S1 := (SH ++ X)) (V1 := V) rfl ?_
    rcases ai_if h with ⟨hc, h⟩ | ⟨hc, h⟩
    · refine rn_brT rfl rfl rfl rfl hc ?_
      refine rn_go 3 (pc' := 74) (l' := [(0, .ref 0), (1, .int x1), (2, .int x2), (3, .int x3), (4, .int x4)]) (st' := [.int x1, .ref 22]) (S1 := (SH ++ X)) (V1 := V) rfl ?_
      rcases ai_if h with ⟨hc, h⟩ | ⟨hc, h⟩
      · refine rn_brT rfl rfl rfl rfl hc ?_
        refine rn_go 2 (pc' := 83) (l' := [(0, .ref 0), (1, .int x1), (2, .int x2), (3, .int x3), (4, .int x4)]) (st' := [.long (x2).toInt64, .ref 22]) (S1 := (SH ++ X)) (V1 := V) rfl ?_
        exact rn_sub [1, 3] rfl rfl (t_X_trod_83 (X := X) hd x1 x3 (x2).toInt64 V _ h)
      · refine rn_brF rfl rfl rfl rfl hc ?_
        refine rn_go 2 (pc' := 83) (l' := [(0, .ref 0), (1, .int x1), (2, .int x2), (3, .int x3), (4, .int x4)]) (st' := [.long (Int64.ofNat 0), .ref 22]) (S1 := (SH ++ X)) (V1 := V) rfl ?_
        exact rn_sub [1, 3] rfl rfl (t_X_trod_83 (X := X) hd x1 x3 (Int64.ofNat 0) V _ h)
    · refine rn_brF rfl rfl rfl rfl hc ?_
      refine rn_go 3 (pc' := 27) (l' := [(0, .ref 0), (1, .int x1), (2, .int x2), (3, .int x3), (4, .int x4)]) (st' := [.int x4, .ref 78]) (S1 := (SH ++ X)) (V1 := V) rfl ?_
      obtain ⟨q2, hq2, h⟩ := ai_bd h
      refine rn_call rfl rfl rfl rfl rfl rfl (by omega) (t_Pegs_findSets (by omega) hq2) ?_
      refine rn_go 10 (pc' := 48) (l' := [(1, .int (ai_min (1000000 : Int32) (x1 * q2.1))), (5, .int q2.1), (0, .ref 0), (2, .int x2), (3, .int x3), (4, .int x4)]) (st' := [.ref 78, .int x2]) (S1 := (SH ++ X)) (V1 := q2.2) rfl ?_
      obtain ⟨q3, hq3, h⟩ := ai_bd h
      refine rn_call rfl rfl rfl rfl rfl rfl (by omega) (t_Pegs_inSome (by omega) hq3) ?_
      refine rn_go 5 (pc' := 58) (l' := [(2, .int (x2 ||| q3)), (1, .int (ai_min (1000000 : Int32) (x1 * q2.1))), (5, .int q2.1), (0, .ref 0), (3, .int x3), (4, .int x4)]) (st' := [.ref 78, .int x3]) (S1 := (SH ++ X)) (V1 := q2.2) rfl ?_
      obtain ⟨q4, hq4, h⟩ := ai_bd h
      refine rn_call rfl rfl rfl rfl rfl rfl (by omega) (t_Pegs_inAll (by omega) hq4) ?_
      refine rn_go 4 (pc' := 9) (l' := [(4, .int (x4 + (1 : Int32))), (3, .int (x3 ||| q4)), (2, .int (x2 ||| q3)), (1, .int (ai_min (1000000 : Int32) (x1 * q2.1))), (5, .int q2.1), (0, .ref 0)]) (st' := []) (S1 := (SH ++ X)) (V1 := q2.2) rfl ?_
      exact rn_sub [5, 3, 2, 1, 0] rfl rfl (ih (ai_min (1000000 : Int32) (x1 * q2.1)) (x2 ||| q3) (x3 ||| q4) (x4 + (1 : Int32)) q2.2 _ h)
def d_X_trod  (V : ai_V) : Option (Int32 × ai_V) :=
  d_X_trod_9 ai_N (1 : Int32) (0 : Int32) (0 : Int32) (0 : Int32) V
set_option maxRecDepth 20000 in
theorem t_X_trod {X : ai_S} {e : Nat} (hd : 3 ≤ e)  {V : ai_V} {r : (Int32 × ai_V)} (h : d_X_trod  V = some r) : Rn e 142 0 (lv_args 0 [.ref 0]) [] (SH ++ X) V (some (.int r.1)) (SH ++ X) r.2 := by
  rw [d_X_trod] at h
  refine rn_go 8 (pc' := 9) (l' := [(4, .int (0 : Int32)), (3, .int (0 : Int32)), (2, .int (0 : Int32)), (1, .int (1 : Int32)), (0, .ref 0)]) (st' := []) (S1 := (SH ++ X)) (V1 := V) rfl ?_
  exact rn_sub [4, 3, 2, 1, 0] rfl rfl (t_X_trod_9 (X := X) hd ai_N (1 : Int32) (0 : Int32) (0 : Int32) (0 : Int32) V _ h)
-- RentByTheWheel.ways(I)I (0, None)
def d_X_ways_35  : Nat → Int32 → Int32 → ai_V → Option (Int32 × ai_V)
  | 0, _, _, _ => none
  | n + 1, x2, x3, V => if x2 ≤ x3 then (some (x2, V)) else (if (10 : Int32) ≤ x3 then (some (x2, V)) else (if ai_in x3 22 then ((d_Row_add (((ga V 79 (x3).toNatClampNeg)).toInt64) V).bind fun q1 => (d_X_ways_35 n x2 (x3 + (1 : Int32)) q1)) else none))
set_option maxRecDepth 20000 in
theorem t_X_ways_35 {X : ai_S} {e : Nat} (hd : 2 ≤ e)  : ∀ (n : Nat) (x2 : Int32) (x3 : Int32) (V : ai_V) (r : (Int32 × ai_V)), d_X_ways_35  n x2 x3 V = some r → Rn e 143 35 [(0, .ref 0), (2, .int x2), (3, .int x3)] [] (SH ++ X) V (some (.int r.1)) (SH ++ X) r.2 := by
  intro n
  induction n with
  | zero =>
    intro x2 x3 V r h
    cases h
  | succ n ih =>
    intro x2 x3 V r h
    rw [d_X_ways_35] at h
    refine rn_go 2 (pc' := 37) (l' := [(0, .ref 0), (2, .int x2), (3, .int x3)]) (st' := [.int x2, .int x3]) (S1 := (SH ++ X)) (V1 := V) rfl ?_
    rcases ai_if h with ⟨hc, h⟩ | ⟨hc, h⟩
    · refine rn_brT rfl rfl rfl rfl hc ?_
      refine rn_go 1 (pc' := 70) (l' := [(0, .ref 0), (2, .int x2), (3, .int x3)]) (st' := [.int x2]) (S1 := (SH ++ X)) (V1 := V) rfl ?_
      obtain rfl := Option.some.inj h
      exact rn_ret rfl rfl rfl
    · refine rn_brF rfl rfl rfl rfl hc ?_
      refine rn_go 2 (pc' := 43) (l' := [(0, .ref 0), (2, .int x2), (3, .int x3)]) (st' := [.int (10 : Int32), .int x3]) (S1 := (SH ++ X)) (V1 := V) rfl ?_
      rcases ai_if h with ⟨hc, h⟩ | ⟨hc, h⟩
      · refine rn_brT rfl rfl rfl rfl hc ?_
        refine rn_go 1 (pc' := 70) (l' := [(0, .ref 0), (2, .int x2), (3, .int x3)]) (st' := [.int x2]) (S1 := (SH ++ X)) (V1 := V) rfl ?_
        obtain rfl := Option.some.inj h
        exact rn_ret rfl rfl rfl
      · refine rn_brF rfl rfl rfl rfl hc ?_
        refine rn_go 6 (pc' := 58) (l' := [(0, .ref 0), (2, .int x2), (3, .int x3)]) (st' := [.int x3, .ref 79, .ref 22]) (S1 := (SH ++ X)) (V1 := V) rfl ?_
        obtain ⟨hg, h⟩ := ai_gd h
        refine rg_iald (n := 22) rfl rfl hg ?_
        refine rn_go 1 (pc' := 60) (l' := [(0, .ref 0), (2, .int x2), (3, .int x3)]) (st' := [.long ((ga V 79 (x3).toNatClampNeg)).toInt64, .ref 22]) (S1 := (SH ++ X)) (V1 := V) rfl ?_
        obtain ⟨q1, hq1, h⟩ := ai_bd h
        refine rn_call rfl rfl rfl rfl rfl rfl (by omega) (t_Row_add (by omega) hq1) ?_
        refine rn_go 2 (pc' := 35) (l' := [(3, .int (x3 + (1 : Int32))), (0, .ref 0), (2, .int x2)]) (st' := []) (S1 := (SH ++ X)) (V1 := q1) rfl ?_
        exact rn_sub [1, 2, 0] rfl rfl (ih x2 (x3 + (1 : Int32)) q1 _ h)
def d_X_ways (x1 : Int32) (V : ai_V) : Option (Int32 × ai_V) :=
  if x1 < 0 then (some ((-1 : Int32), V)) else (if x1 < (gi V 78 1) then ((d_Pegs_findSets x1 V).bind fun q2 => ((d_Row_clear  q2.2).bind fun q3 => (d_X_ways_35 ai_N q2.1 (0 : Int32) q3))) else (some ((-1 : Int32), V)))
set_option maxRecDepth 20000 in
theorem t_X_ways {X : ai_S} {e : Nat} (hd : 2 ≤ e) {x1 : Int32} {V : ai_V} {r : (Int32 × ai_V)} (h : d_X_ways x1 V = some r) : Rn e 143 0 (lv_args 0 [.ref 0, .int x1]) [] (SH ++ X) V (some (.int r.1)) (SH ++ X) r.2 := by
  rw [d_X_ways] at h
  refine rn_go 1 (pc' := 1) (l' := [(0, .ref 0), (1, .int x1)]) (st' := [.int x1]) (S1 := (SH ++ X)) (V1 := V) rfl ?_
  rcases ai_if h with ⟨hc, h⟩ | ⟨hc, h⟩
  · refine rn_brT rfl rfl rfl rfl hc ?_
    refine rn_go 1 (pc' := 16) (l' := [(0, .ref 0), (1, .int x1)]) (st' := [.int (-1 : Int32)]) (S1 := (SH ++ X)) (V1 := V) rfl ?_
    obtain rfl := Option.some.inj h
    exact rn_ret rfl rfl rfl
  · refine rn_brF rfl rfl rfl rfl hc ?_
    refine rn_go 4 (pc' := 12) (l' := [(0, .ref 0), (1, .int x1)]) (st' := [.int (gi V 78 1), .int x1]) (S1 := (SH ++ X)) (V1 := V) rfl ?_
    rcases ai_if h with ⟨hc, h⟩ | ⟨hc, h⟩
    · refine rn_brT rfl rfl rfl rfl hc ?_
      refine rn_go 3 (pc' := 22) (l' := [(0, .ref 0), (1, .int x1)]) (st' := [.int x1, .ref 78]) (S1 := (SH ++ X)) (V1 := V) rfl ?_
      obtain ⟨q2, hq2, h⟩ := ai_bd h
      refine rn_call rfl rfl rfl rfl rfl rfl (by omega) (t_Pegs_findSets (by omega) hq2) ?_
      refine rn_go 3 (pc' := 30) (l' := [(2, .int q2.1), (0, .ref 0), (1, .int x1)]) (st' := [.ref 22]) (S1 := (SH ++ X)) (V1 := q2.2) rfl ?_
      obtain ⟨q3, hq3, h⟩ := ai_bd h
      refine rn_call rfl rfl rfl rfl rfl rfl (by omega) (t_Row_clear (by omega) hq3) ?_
      refine rn_go 2 (pc' := 35) (l' := [(3, .int (0 : Int32)), (2, .int q2.1), (0, .ref 0), (1, .int x1)]) (st' := []) (S1 := (SH ++ X)) (V1 := q3) rfl ?_
      exact rn_sub [2, 1, 0] rfl rfl (t_X_ways_35 (X := X) hd ai_N q2.1 (0 : Int32) q3 _ h)
    · refine rn_brF rfl rfl rfl rfl hc ?_
      refine rn_go 1 (pc' := 16) (l' := [(0, .ref 0), (1, .int x1)]) (st' := [.int (-1 : Int32)]) (S1 := (SH ++ X)) (V1 := V) rfl ?_
      obtain rfl := Option.some.inj h
      exact rn_ret rfl rfl rfl
-- RentByTheWheel.levelWithout(III)I (0, None, None, None)
def d_X_levelWithout (x1 : Int32) (x2 : Int32) (x3 : Int32) (V : ai_V) : Option (Int32 × ai_V) :=
  (d_State_quarterNow  V).bind fun q1 => ((d_Wheel_pails x2 x3 (0 : Int32) q1 x1 V).bind fun q2 => ((d_Wheel_pails x3 x2 (0 : Int32) q1 x1 q2.2).bind fun q3 => (some ((ai_min (q2.1 + q3.1) (gi q3.2 16 2)), q3.2))))
set_option maxRecDepth 20000 in
theorem t_X_levelWithout {X : ai_S} {e : Nat} (hd : 3 ≤ e) {x1 : Int32} {x2 : Int32} {x3 : Int32} {V : ai_V} {r : (Int32 × ai_V)} (h : d_X_levelWithout x1 x2 x3 V = some r) : Rn e 144 0 (lv_args 0 [.ref 0, .int x1, .int x2, .int x3]) [] (SH ++ X) V (some (.int r.1)) (SH ++ X) r.2 := by
  rw [d_X_levelWithout] at h
  refine rn_go 2 (pc' := 4) (l' := [(0, .ref 0), (1, .int x1), (2, .int x2), (3, .int x3)]) (st' := [.ref 16]) (S1 := (SH ++ X)) (V1 := V) rfl ?_
  obtain ⟨q1, hq1, h⟩ := ai_bd h
  refine rn_call rfl rfl rfl rfl rfl rfl (by omega) (t_State_quarterNow (by omega) hq1) ?_
  refine rn_go 8 (pc' := 19) (l' := [(4, .int q1), (0, .ref 0), (1, .int x1), (2, .int x2), (3, .int x3)]) (st' := [.int x1, .int q1, .int (0 : Int32), .int x3, .int x2, .ref 15]) (S1 := (SH ++ X)) (V1 := V) rfl ?_
  obtain ⟨q2, hq2, h⟩ := ai_bd h
  refine rn_call rfl rfl rfl rfl rfl rfl (by omega) (t_Wheel_pails (by omega) hq2) ?_
  refine rn_go 7 (pc' := 32) (l' := [(4, .int q1), (0, .ref 0), (1, .int x1), (2, .int x2), (3, .int x3)]) (st' := [.int x1, .int q1, .int (0 : Int32), .int x2, .int x3, .ref 15, .int q2.1]) (S1 := (SH ++ X)) (V1 := q2.2) rfl ?_
  obtain ⟨q3, hq3, h⟩ := ai_bd h
  refine rn_call rfl rfl rfl rfl rfl rfl (by omega) (t_Wheel_pails (by omega) hq3) ?_
  refine rn_go 7 (pc' := 50) (l' := [(5, .int (q2.1 + q3.1)), (4, .int q1), (0, .ref 0), (1, .int x1), (2, .int x2), (3, .int x3)]) (st' := [.int (ai_min (q2.1 + q3.1) (gi q3.2 16 2))]) (S1 := (SH ++ X)) (V1 := q3.2) rfl ?_
  obtain rfl := Option.some.inj h
  exact rn_ret rfl rfl rfl
-- RentByTheWheel.braked(II)I (0, None, None)
def d_X_braked_158  (x6 : Int32) (s0 : Int64) (s1 : Int64) (V : ai_V) : Option (Int32 × ai_V) :=
  (d_Row_tellTwo s1 s0 V).bind fun q1 => (some (x6, q1))
set_option maxRecDepth 20000 in
theorem t_X_braked_158 {X : ai_S} {e : Nat} (hd : 4 ≤ e)  (x6 : Int32) (s0 : Int64) (s1 : Int64) (V : ai_V) (r : (Int32 × ai_V)) (h : d_X_braked_158  x6 s0 s1 V = some r) : Rn e 145 158 [(6, .int x6)] [.long s0, .long s1, .ref 22] (SH ++ X) V (some (.int r.1)) (SH ++ X) r.2 := by
  rw [d_X_braked_158] at h
  obtain ⟨q1, hq1, h⟩ := ai_bd h
  refine rn_call rfl rfl rfl rfl rfl rfl (by omega) (t_Row_tellTwo (by omega) hq1) ?_
  refine rn_go 1 (pc' := 163) (l' := [(6, .int x6)]) (st' := [.int x6]) (S1 := (SH ++ X)) (V1 := q1) rfl ?_
  obtain rfl := Option.some.inj h
  exact rn_ret rfl rfl rfl
def d_X_braked_133 (F80 : Int32 → Int32 → Int32 → Int32 → Int32 → Int32 → Int32 → Int32 → ai_V → Option (Int32 × ai_V)) (x1 : Int32) (x2 : Int32) (x4 : Int32) (x5 : Int32) (x6 : Int32) (x7 : Int32) (x8 : Int32) (x9 : Int32) (V : ai_V) : Option (Int32 × ai_V) :=
  F80 x1 x2 x4 x5 x6 x7 x8 (x9 + (1 : Int32)) V
set_option maxRecDepth 20000 in
theorem t_X_braked_133 {X : ai_S} {e : Nat} (hd : 4 ≤ e) (F80 : Int32 → Int32 → Int32 → Int32 → Int32 → Int32 → Int32 → Int32 → ai_V → Option (Int32 × ai_V)) (hF80 : ∀ (x1 : Int32) (x2 : Int32) (x4 : Int32) (x5 : Int32) (x6 : Int32) (x7 : Int32) (x8 : Int32) (x9 : Int32) (V : ai_V) (r : (Int32 × ai_V)), F80 x1 x2 x4 x5 x6 x7 x8 x9 V = some r → Rn e 145 80 [(0, .ref 0), (1, .int x1), (2, .int x2), (4, .int x4), (5, .int x5), (6, .int x6), (7, .int x7), (8, .int x8), (9, .int x9)] [] (SH ++ X) V (some (.int r.1)) (SH ++ X) r.2) (x1 : Int32) (x2 : Int32) (x4 : Int32) (x5 : Int32) (x6 : Int32) (x7 : Int32) (x8 : Int32) (x9 : Int32) (V : ai_V) (r : (Int32 × ai_V)) (h : d_X_braked_133 F80 x1 x2 x4 x5 x6 x7 x8 x9 V = some r) : Rn e 145 133 [(0, .ref 0), (1, .int x1), (2, .int x2), (4, .int x4), (5, .int x5), (6, .int x6), (7, .int x7), (8, .int x8), (9, .int x9)] [] (SH ++ X) V (some (.int r.1)) (SH ++ X) r.2 := by
  rw [d_X_braked_133] at h
  refine rn_go 2 (pc' := 80) (l' := [(9, .int (x9 + (1 : Int32))), (0, .ref 0), (1, .int x1), (2, .int x2), (4, .int x4), (5, .int x5), (6, .int x6), (7, .int x7), (8, .int x8)]) (st' := []) (S1 := (SH ++ X)) (V1 := V) rfl ?_
  exact rn_sub [1, 2, 3, 4, 5, 6, 7, 8, 0] rfl rfl (hF80 x1 x2 x4 x5 x6 x7 x8 (x9 + (1 : Int32)) V _ h)
def d_X_braked_121 (F80 : Int32 → Int32 → Int32 → Int32 → Int32 → Int32 → Int32 → Int32 → ai_V → Option (Int32 × ai_V)) (x1 : Int32) (x2 : Int32) (x4 : Int32) (x5 : Int32) (x6 : Int32) (x8 : Int32) (x9 : Int32) (s0 : Int32) (V : ai_V) : Option (Int32 × ai_V) :=
  d_X_braked_133 F80 x1 x2 x4 x5 (x6 + (1 : Int32)) s0 (x8 &&& x9) x9 V
set_option maxRecDepth 20000 in
theorem t_X_braked_121 {X : ai_S} {e : Nat} (hd : 4 ≤ e) (F80 : Int32 → Int32 → Int32 → Int32 → Int32 → Int32 → Int32 → Int32 → ai_V → Option (Int32 × ai_V)) (hF80 : ∀ (x1 : Int32) (x2 : Int32) (x4 : Int32) (x5 : Int32) (x6 : Int32) (x7 : Int32) (x8 : Int32) (x9 : Int32) (V : ai_V) (r : (Int32 × ai_V)), F80 x1 x2 x4 x5 x6 x7 x8 x9 V = some r → Rn e 145 80 [(0, .ref 0), (1, .int x1), (2, .int x2), (4, .int x4), (5, .int x5), (6, .int x6), (7, .int x7), (8, .int x8), (9, .int x9)] [] (SH ++ X) V (some (.int r.1)) (SH ++ X) r.2) (x1 : Int32) (x2 : Int32) (x4 : Int32) (x5 : Int32) (x6 : Int32) (x8 : Int32) (x9 : Int32) (s0 : Int32) (V : ai_V) (r : (Int32 × ai_V)) (h : d_X_braked_121 F80 x1 x2 x4 x5 x6 x8 x9 s0 V = some r) : Rn e 145 121 [(0, .ref 0), (1, .int x1), (2, .int x2), (4, .int x4), (5, .int x5), (6, .int x6), (8, .int x8), (9, .int x9)] [.int s0] (SH ++ X) V (some (.int r.1)) (SH ++ X) r.2 := by
  rw [d_X_braked_121] at h
  refine rn_go 6 (pc' := 133) (l' := [(6, .int (x6 + (1 : Int32))), (8, .int (x8 &&& x9)), (7, .int s0), (0, .ref 0), (1, .int x1), (2, .int x2), (4, .int x4), (5, .int x5), (9, .int x9)]) (st' := []) (S1 := (SH ++ X)) (V1 := V) rfl ?_
  exact rn_sub [3, 4, 5, 6, 7, 0, 2, 1, 8] rfl rfl (t_X_braked_133 (X := X) hd F80 hF80 x1 x2 x4 x5 (x6 + (1 : Int32)) s0 (x8 &&& x9) x9 V _ h)
def d_X_braked_80  : Nat → Int32 → Int32 → Int32 → Int32 → Int32 → Int32 → Int32 → Int32 → ai_V → Option (Int32 × ai_V)
  | 0, _, _, _, _, _, _, _, _, _ => none
  | n + 1, x1, x2, x4, x5, x6, x7, x8, x9, V => if x1 < x9 then (if ¬ x6 = 0 then (d_X_braked_158 x6 (x8).toInt64 (x7).toInt64 V) else (d_X_braked_158 x6 (Int64.ofNat 0) (x7).toInt64 V)) else (if ¬ (x9 &&& (x1 ^^^ (-1 : Int32))) = 0 then (d_X_braked_133 (d_X_braked_80 n) x1 x2 x4 x5 x6 x7 x8 x9 V) else ((d_X_levelWithout x9 x4 x5 V).bind fun q2 => (if ¬ q2.1 = x2 then (d_X_braked_133 (d_X_braked_80 n) x1 x2 x4 x5 x6 x7 x8 x9 q2.2) else (if ¬ x6 = 0 then (d_X_braked_121 (d_X_braked_80 n) x1 x2 x4 x5 x6 x8 x9 x7 q2.2) else (d_X_braked_121 (d_X_braked_80 n) x1 x2 x4 x5 x6 x8 x9 x9 q2.2)))))
set_option maxRecDepth 20000 in
theorem t_X_braked_80 {X : ai_S} {e : Nat} (hd : 4 ≤ e)  : ∀ (n : Nat) (x1 : Int32) (x2 : Int32) (x4 : Int32) (x5 : Int32) (x6 : Int32) (x7 : Int32) (x8 : Int32) (x9 : Int32) (V : ai_V) (r : (Int32 × ai_V)), d_X_braked_80  n x1 x2 x4 x5 x6 x7 x8 x9 V = some r → Rn e 145 80 [(0, .ref 0), (1, .int x1), (2, .int x2), (4, .int x4), (5, .int x5), (6, .int x6), (7, .int x7), (8, .int x8), (9, .int x9)] [] (SH ++ X) V (some (.int r.1)) (SH ++ X) r.2 := by
  intro n
  induction n with
  | zero =>
    intro x1 x2 x4 x5 x6 x7 x8 x9 V r h
    cases h
  | succ n ih =>
    intro x1 x2 x4 x5 x6 x7 x8 x9 V r h
    rw [d_X_braked_80] at h
    refine rn_go 2 (pc' := 83) (l' := [(0, .ref 0), (1, .int x1), (2, .int x2), (4, .int x4), (5, .int x5), (6, .int x6), (7, .int x7), (8, .int x8), (9, .int x9)]) (st' := [.int x1, .int x9]) (S1 := (SH ++ X)) (V1 := V) rfl ?_
    rcases ai_if h with ⟨hc, h⟩ | ⟨hc, h⟩
    · refine rn_brT rfl rfl rfl rfl hc ?_
      refine rn_go 5 (pc' := 148) (l' := [(0, .ref 0), (1, .int x1), (2, .int x2), (4, .int x4), (5, .int x5), (6, .int x6), (7, .int x7), (8, .int x8), (9, .int x9)]) (st' := [.int x6, .long (x7).toInt64, .ref 22]) (S1 := (SH ++ X)) (V1 := V) rfl ?_
      rcases ai_if h with ⟨hc, h⟩ | ⟨hc, h⟩
      · refine rn_brT rfl rfl rfl rfl hc ?_
        refine rn_go 2 (pc' := 158) (l' := [(0, .ref 0), (1, .int x1), (2, .int x2), (4, .int x4), (5, .int x5), (6, .int x6), (7, .int x7), (8, .int x8), (9, .int x9)]) (st' := [.long (x8).toInt64, .long (x7).toInt64, .ref 22]) (S1 := (SH ++ X)) (V1 := V) rfl ?_
        exact rn_sub [5] rfl rfl (t_X_braked_158 (X := X) hd x6 (x8).toInt64 (x7).toInt64 V _ h)
      · refine rn_brF rfl rfl rfl rfl hc ?_
        refine rn_go 2 (pc' := 158) (l' := [(0, .ref 0), (1, .int x1), (2, .int x2), (4, .int x4), (5, .int x5), (6, .int x6), (7, .int x7), (8, .int x8), (9, .int x9)]) (st' := [.long (Int64.ofNat 0), .long (x7).toInt64, .ref 22]) (S1 := (SH ++ X)) (V1 := V) rfl ?_
        exact rn_sub [5] rfl rfl (t_X_braked_158 (X := X) hd x6 (Int64.ofNat 0) (x7).toInt64 V _ h)
    · refine rn_brF rfl rfl rfl rfl hc ?_
      refine rn_go 5 (pc' := 92) (l' := [(0, .ref 0), (1, .int x1), (2, .int x2), (4, .int x4), (5, .int x5), (6, .int x6), (7, .int x7), (8, .int x8), (9, .int x9)]) (st' := [.int (x9 &&& (x1 ^^^ (-1 : Int32)))]) (S1 := (SH ++ X)) (V1 := V) rfl ?_
      rcases ai_if h with ⟨hc, h⟩ | ⟨hc, h⟩
      · refine rn_brT rfl rfl rfl rfl hc ?_
        exact rn_sub [0, 1, 2, 3, 4, 5, 6, 7, 8] rfl rfl (t_X_braked_133 (X := X) hd (d_X_braked_80 n) (ih) x1 x2 x4 x5 x6 x7 x8 x9 V _ h)
      · refine rn_brF rfl rfl rfl rfl hc ?_
        refine rn_go 4 (pc' := 102) (l' := [(0, .ref 0), (1, .int x1), (2, .int x2), (4, .int x4), (5, .int x5), (6, .int x6), (7, .int x7), (8, .int x8), (9, .int x9)]) (st' := [.int x5, .int x4, .int x9, .ref 0]) (S1 := (SH ++ X)) (V1 := V) rfl ?_
        obtain ⟨q2, hq2, h⟩ := ai_bd h
        refine rn_call rfl rfl rfl rfl rfl rfl (by omega) (t_X_levelWithout (by omega) hq2) ?_
        refine rn_go 1 (pc' := 106) (l' := [(0, .ref 0), (1, .int x1), (2, .int x2), (4, .int x4), (5, .int x5), (6, .int x6), (7, .int x7), (8, .int x8), (9, .int x9)]) (st' := [.int x2, .int q2.1]) (S1 := (SH ++ X)) (V1 := q2.2) rfl ?_
        rcases ai_if h with ⟨hc, h⟩ | ⟨hc, h⟩
        · refine rn_brT rfl rfl rfl rfl hc ?_
          exact rn_sub [0, 1, 2, 3, 4, 5, 6, 7, 8] rfl rfl (t_X_braked_133 (X := X) hd (d_X_braked_80 n) (ih) x1 x2 x4 x5 x6 x7 x8 x9 q2.2 _ h)
        · refine rn_brF rfl rfl rfl rfl hc ?_
          refine rn_go 1 (pc' := 111) (l' := [(0, .ref 0), (1, .int x1), (2, .int x2), (4, .int x4), (5, .int x5), (6, .int x6), (7, .int x7), (8, .int x8), (9, .int x9)]) (st' := [.int x6]) (S1 := (SH ++ X)) (V1 := q2.2) rfl ?_
          rcases ai_if h with ⟨hc, h⟩ | ⟨hc, h⟩
          · refine rn_brT rfl rfl rfl rfl hc ?_
            refine rn_go 1 (pc' := 121) (l' := [(0, .ref 0), (1, .int x1), (2, .int x2), (4, .int x4), (5, .int x5), (6, .int x6), (7, .int x7), (8, .int x8), (9, .int x9)]) (st' := [.int x7]) (S1 := (SH ++ X)) (V1 := q2.2) rfl ?_
            exact rn_sub [0, 1, 2, 3, 4, 5, 7, 8] rfl rfl (t_X_braked_121 (X := X) hd (d_X_braked_80 n) (ih) x1 x2 x4 x5 x6 x8 x9 x7 q2.2 _ h)
          · refine rn_brF rfl rfl rfl rfl hc ?_
            refine rn_go 2 (pc' := 121) (l' := [(0, .ref 0), (1, .int x1), (2, .int x2), (4, .int x4), (5, .int x5), (6, .int x6), (7, .int x7), (8, .int x8), (9, .int x9)]) (st' := [.int x9]) (S1 := (SH ++ X)) (V1 := q2.2) rfl ?_
            exact rn_sub [0, 1, 2, 3, 4, 5, 7, 8] rfl rfl (t_X_braked_121 (X := X) hd (d_X_braked_80 n) (ih) x1 x2 x4 x5 x6 x8 x9 x9 q2.2 _ h)
def d_X_braked_19  (x1 : Int32) (x2 : Int32) (s0 : Int32) (V : ai_V) : Option (Int32 × ai_V) :=
  if s0 < (1 : Int32) then (some ((-1 : Int32), V)) else (if (2 : Int32) < s0 then (some ((-1 : Int32), V)) else (if x2 < 0 then (some ((-1 : Int32), V)) else (if x2 ≤ (999 : Int32) then ((d_House_firstOf x1 V).bind fun q3 => ((d_House_firstOf (x1 ^^^ ((1 : Int32) <<< (q3 &&& 31))) V).bind fun q4 => (d_X_braked_80 ai_N x1 x2 q3 q4 (0 : Int32) (-1 : Int32) x1 (0 : Int32) V))) else (some ((-1 : Int32), V)))))
set_option maxRecDepth 20000 in
theorem t_X_braked_19 {X : ai_S} {e : Nat} (hd : 4 ≤ e)  (x1 : Int32) (x2 : Int32) (s0 : Int32) (V : ai_V) (r : (Int32 × ai_V)) (h : d_X_braked_19  x1 x2 s0 V = some r) : Rn e 145 19 [(0, .ref 0), (1, .int x1), (2, .int x2)] [.int s0] (SH ++ X) V (some (.int r.1)) (SH ++ X) r.2 := by
  rw [d_X_braked_19] at h
  refine rn_go 3 (pc' := 22) (l' := [(3, .int s0), (0, .ref 0), (1, .int x1), (2, .int x2)]) (st' := [.int (1 : Int32), .int s0]) (S1 := (SH ++ X)) (V1 := V) rfl ?_
  rcases ai_if h with ⟨hc, h⟩ | ⟨hc, h⟩
  · refine rn_brT rfl rfl rfl rfl hc ?_
    refine rn_go 1 (pc' := 42) (l' := [(3, .int s0), (0, .ref 0), (1, .int x1), (2, .int x2)]) (st' := [.int (-1 : Int32)]) (S1 := (SH ++ X)) (V1 := V) rfl ?_
    obtain rfl := Option.some.inj h
    exact rn_ret rfl rfl rfl
  · refine rn_brF rfl rfl rfl rfl hc ?_
    refine rn_go 2 (pc' := 27) (l' := [(3, .int s0), (0, .ref 0), (1, .int x1), (2, .int x2)]) (st' := [.int (2 : Int32), .int s0]) (S1 := (SH ++ X)) (V1 := V) rfl ?_
    rcases ai_if h with ⟨hc, h⟩ | ⟨hc, h⟩
    · refine rn_brT rfl rfl rfl rfl hc ?_
      refine rn_go 1 (pc' := 42) (l' := [(3, .int s0), (0, .ref 0), (1, .int x1), (2, .int x2)]) (st' := [.int (-1 : Int32)]) (S1 := (SH ++ X)) (V1 := V) rfl ?_
      obtain rfl := Option.some.inj h
      exact rn_ret rfl rfl rfl
    · refine rn_brF rfl rfl rfl rfl hc ?_
      refine rn_go 1 (pc' := 31) (l' := [(3, .int s0), (0, .ref 0), (1, .int x1), (2, .int x2)]) (st' := [.int x2]) (S1 := (SH ++ X)) (V1 := V) rfl ?_
      rcases ai_if h with ⟨hc, h⟩ | ⟨hc, h⟩
      · refine rn_brT rfl rfl rfl rfl hc ?_
        refine rn_go 1 (pc' := 42) (l' := [(3, .int s0), (0, .ref 0), (1, .int x1), (2, .int x2)]) (st' := [.int (-1 : Int32)]) (S1 := (SH ++ X)) (V1 := V) rfl ?_
        obtain rfl := Option.some.inj h
        exact rn_ret rfl rfl rfl
      · refine rn_brF rfl rfl rfl rfl hc ?_
        refine rn_go 2 (pc' := 38) (l' := [(3, .int s0), (0, .ref 0), (1, .int x1), (2, .int x2)]) (st' := [.int (999 : Int32), .int x2]) (S1 := (SH ++ X)) (V1 := V) rfl ?_
        rcases ai_if h with ⟨hc, h⟩ | ⟨hc, h⟩
        · refine rn_brT rfl rfl rfl rfl hc ?_
          refine rn_go 3 (pc' := 48) (l' := [(3, .int s0), (0, .ref 0), (1, .int x1), (2, .int x2)]) (st' := [.int x1, .ref 3]) (S1 := (SH ++ X)) (V1 := V) rfl ?_
          obtain ⟨q3, hq3, h⟩ := ai_bd h
          refine rn_call rfl rfl rfl rfl rfl rfl (by omega) (t_House_firstOf (by omega) hq3) ?_
          refine rn_go 8 (pc' := 63) (l' := [(4, .int q3), (3, .int s0), (0, .ref 0), (1, .int x1), (2, .int x2)]) (st' := [.int (x1 ^^^ ((1 : Int32) <<< (q3 &&& 31))), .ref 3]) (S1 := (SH ++ X)) (V1 := V) rfl ?_
          obtain ⟨q4, hq4, h⟩ := ai_bd h
          refine rn_call rfl rfl rfl rfl rfl rfl (by omega) (t_House_firstOf (by omega) hq4) ?_
          refine rn_go 9 (pc' := 80) (l' := [(9, .int (0 : Int32)), (8, .int x1), (7, .int (-1 : Int32)), (6, .int (0 : Int32)), (5, .int q4), (4, .int q3), (3, .int s0), (0, .ref 0), (1, .int x1), (2, .int x2)]) (st' := []) (S1 := (SH ++ X)) (V1 := V) rfl ?_
          exact rn_sub [7, 8, 9, 5, 4, 3, 2, 1, 0] rfl rfl (t_X_braked_80 (X := X) hd ai_N x1 x2 q3 q4 (0 : Int32) (-1 : Int32) x1 (0 : Int32) V _ h)
        · refine rn_brF rfl rfl rfl rfl hc ?_
          refine rn_go 1 (pc' := 42) (l' := [(3, .int s0), (0, .ref 0), (1, .int x1), (2, .int x2)]) (st' := [.int (-1 : Int32)]) (S1 := (SH ++ X)) (V1 := V) rfl ?_
          obtain rfl := Option.some.inj h
          exact rn_ret rfl rfl rfl
def d_X_braked (x1 : Int32) (x2 : Int32) (V : ai_V) : Option (Int32 × ai_V) :=
  (d_House_hasAll x1 V).bind fun q5 => (if q5 = 0 then (d_X_braked_19 x1 x2 (0 : Int32) V) else ((d_Int_bitCount x1 V).bind fun q6 => (d_X_braked_19 x1 x2 q6 V)))
set_option maxRecDepth 20000 in
theorem t_X_braked {X : ai_S} {e : Nat} (hd : 4 ≤ e) {x1 : Int32} {x2 : Int32} {V : ai_V} {r : (Int32 × ai_V)} (h : d_X_braked x1 x2 V = some r) : Rn e 145 0 (lv_args 0 [.ref 0, .int x1, .int x2]) [] (SH ++ X) V (some (.int r.1)) (SH ++ X) r.2 := by
  rw [d_X_braked] at h
  refine rn_go 3 (pc' := 5) (l' := [(0, .ref 0), (1, .int x1), (2, .int x2)]) (st' := [.int x1, .ref 3]) (S1 := (SH ++ X)) (V1 := V) rfl ?_
  obtain ⟨q5, hq5, h⟩ := ai_bd h
  refine rn_call rfl rfl rfl rfl rfl rfl (by omega) (t_House_hasAll (by omega) hq5) ?_
  rcases ai_if h with ⟨hc, h⟩ | ⟨hc, h⟩
  · refine rn_brT rfl rfl rfl rfl hc ?_
    refine rn_go 1 (pc' := 19) (l' := [(0, .ref 0), (1, .int x1), (2, .int x2)]) (st' := [.int (0 : Int32)]) (S1 := (SH ++ X)) (V1 := V) rfl ?_
    exact rn_sub [0, 1, 2] rfl rfl (t_X_braked_19 (X := X) hd x1 x2 (0 : Int32) V _ h)
  · refine rn_brF rfl rfl rfl rfl hc ?_
    refine rn_go 1 (pc' := 12) (l' := [(0, .ref 0), (1, .int x1), (2, .int x2)]) (st' := [.int x1]) (S1 := (SH ++ X)) (V1 := V) rfl ?_
    obtain ⟨q6, hq6, h⟩ := ai_bd h
    refine rn_call rfl rfl rfl rfl rfl rfl (by omega) (t_Int_bitCount (by omega) hq6) ?_
    refine rn_go 1 (pc' := 19) (l' := [(0, .ref 0), (1, .int x1), (2, .int x2)]) (st' := [.int q6]) (S1 := (SH ++ X)) (V1 := V) rfl ?_
    exact rn_sub [0, 1, 2] rfl rfl (t_X_braked_19 (X := X) hd x1 x2 q6 V _ h)
-- RentByTheWheel.canLive(III)Z (0, None, None, None)
def d_X_canLive (x1 : Int32) (x2 : Int32) (x3 : Int32) (V : ai_V) : Option Int32 :=
  (d_House_has x1 V).bind fun q1 => (if q1 = 0 then (some (0 : Int32)) else (if x2 < (1 : Int32) then (some (0 : Int32)) else (if (12 : Int32) < x2 then (some (0 : Int32)) else (if x3 < 0 then (some (0 : Int32)) else (if (10 : Int32) < x3 then (some (0 : Int32)) else (some (1 : Int32)))))))
set_option maxRecDepth 20000 in
theorem t_X_canLive {X : ai_S} {e : Nat} (hd : 1 ≤ e) {x1 : Int32} {x2 : Int32} {x3 : Int32} {V : ai_V} {r : Int32} (h : d_X_canLive x1 x2 x3 V = some r) : Rn e 146 0 (lv_args 0 [.ref 0, .int x1, .int x2, .int x3]) [] (SH ++ X) V (some (.int r)) (SH ++ X) V := by
  rw [d_X_canLive] at h
  refine rn_go 3 (pc' := 5) (l' := [(0, .ref 0), (1, .int x1), (2, .int x2), (3, .int x3)]) (st' := [.int x1, .ref 3]) (S1 := (SH ++ X)) (V1 := V) rfl ?_
  obtain ⟨q1, hq1, h⟩ := ai_bd h
  refine rn_call rfl rfl rfl rfl rfl rfl (by omega) (t_House_has (by omega) hq1) ?_
  rcases ai_if h with ⟨hc, h⟩ | ⟨hc, h⟩
  · refine rn_brT rfl rfl rfl rfl hc ?_
    refine rn_go 1 (pc' := 37) (l' := [(0, .ref 0), (1, .int x1), (2, .int x2), (3, .int x3)]) (st' := [.int (0 : Int32)]) (S1 := (SH ++ X)) (V1 := V) rfl ?_
    obtain rfl := Option.some.inj h
    exact rg_zret rfl (by decide)
  · refine rn_brF rfl rfl rfl rfl hc ?_
    refine rn_go 2 (pc' := 13) (l' := [(0, .ref 0), (1, .int x1), (2, .int x2), (3, .int x3)]) (st' := [.int (1 : Int32), .int x2]) (S1 := (SH ++ X)) (V1 := V) rfl ?_
    rcases ai_if h with ⟨hc, h⟩ | ⟨hc, h⟩
    · refine rn_brT rfl rfl rfl rfl hc ?_
      refine rn_go 1 (pc' := 37) (l' := [(0, .ref 0), (1, .int x1), (2, .int x2), (3, .int x3)]) (st' := [.int (0 : Int32)]) (S1 := (SH ++ X)) (V1 := V) rfl ?_
      obtain rfl := Option.some.inj h
      exact rg_zret rfl (by decide)
    · refine rn_brF rfl rfl rfl rfl hc ?_
      refine rn_go 2 (pc' := 19) (l' := [(0, .ref 0), (1, .int x1), (2, .int x2), (3, .int x3)]) (st' := [.int (12 : Int32), .int x2]) (S1 := (SH ++ X)) (V1 := V) rfl ?_
      rcases ai_if h with ⟨hc, h⟩ | ⟨hc, h⟩
      · refine rn_brT rfl rfl rfl rfl hc ?_
        refine rn_go 1 (pc' := 37) (l' := [(0, .ref 0), (1, .int x1), (2, .int x2), (3, .int x3)]) (st' := [.int (0 : Int32)]) (S1 := (SH ++ X)) (V1 := V) rfl ?_
        obtain rfl := Option.some.inj h
        exact rg_zret rfl (by decide)
      · refine rn_brF rfl rfl rfl rfl hc ?_
        refine rn_go 1 (pc' := 23) (l' := [(0, .ref 0), (1, .int x1), (2, .int x2), (3, .int x3)]) (st' := [.int x3]) (S1 := (SH ++ X)) (V1 := V) rfl ?_
        rcases ai_if h with ⟨hc, h⟩ | ⟨hc, h⟩
        · refine rn_brT rfl rfl rfl rfl hc ?_
          refine rn_go 1 (pc' := 37) (l' := [(0, .ref 0), (1, .int x1), (2, .int x2), (3, .int x3)]) (st' := [.int (0 : Int32)]) (S1 := (SH ++ X)) (V1 := V) rfl ?_
          obtain rfl := Option.some.inj h
          exact rg_zret rfl (by decide)
        · refine rn_brF rfl rfl rfl rfl hc ?_
          refine rn_go 2 (pc' := 29) (l' := [(0, .ref 0), (1, .int x1), (2, .int x2), (3, .int x3)]) (st' := [.int (10 : Int32), .int x3]) (S1 := (SH ++ X)) (V1 := V) rfl ?_
          rcases ai_if h with ⟨hc, h⟩ | ⟨hc, h⟩
          · refine rn_brT rfl rfl rfl rfl hc ?_
            refine rn_go 1 (pc' := 37) (l' := [(0, .ref 0), (1, .int x1), (2, .int x2), (3, .int x3)]) (st' := [.int (0 : Int32)]) (S1 := (SH ++ X)) (V1 := V) rfl ?_
            obtain rfl := Option.some.inj h
            exact rg_zret rfl (by decide)
          · refine rn_brF rfl rfl rfl rfl hc ?_
            refine rn_go 2 (pc' := 37) (l' := [(0, .ref 0), (1, .int x1), (2, .int x2), (3, .int x3)]) (st' := [.int (1 : Int32)]) (S1 := (SH ++ X)) (V1 := V) rfl ?_
            obtain rfl := Option.some.inj h
            exact rg_zret rfl (by decide)
-- RentByTheWheel.meanTimes(III)J (0, None, None, None)
def d_X_meanTimes_25  : Nat → Int32 → Int32 → Int64 → Int64 → Int32 → ai_V → Option Int64
  | 0, _, _, _, _, _, _ => none
  | n + 1, x2, x3, x4, x6, x8, V => if x2 ≤ x8 then (some x6) else (d_X_meanTimes_25 n x2 x3 (x4 * (x3).toInt64) ((x6 * (Int64.ofNat 10)) + (x4 * (x3).toInt64)) (x8 + (1 : Int32)) V)
set_option maxRecDepth 20000 in
theorem t_X_meanTimes_25 {X : ai_S} {e : Nat} (hd : 1 ≤ e)  : ∀ (n : Nat) (x2 : Int32) (x3 : Int32) (x4 : Int64) (x6 : Int64) (x8 : Int32) (V : ai_V) (r : Int64), d_X_meanTimes_25  n x2 x3 x4 x6 x8 V = some r → Rn e 147 25 [(2, .int x2), (3, .int x3), (4, .long x4), (6, .long x6), (8, .int x8)] [] (SH ++ X) V (some (.long r)) (SH ++ X) V := by
  intro n
  induction n with
  | zero =>
    intro x2 x3 x4 x6 x8 V r h
    cases h
  | succ n ih =>
    intro x2 x3 x4 x6 x8 V r h
    rw [d_X_meanTimes_25] at h
    refine rn_go 2 (pc' := 28) (l' := [(2, .int x2), (3, .int x3), (4, .long x4), (6, .long x6), (8, .int x8)]) (st' := [.int x2, .int x8]) (S1 := (SH ++ X)) (V1 := V) rfl ?_
    rcases ai_if h with ⟨hc, h⟩ | ⟨hc, h⟩
    · refine rn_brT rfl rfl rfl rfl hc ?_
      refine rn_go 1 (pc' := 57) (l' := [(2, .int x2), (3, .int x3), (4, .long x4), (6, .long x6), (8, .int x8)]) (st' := [.long x6]) (S1 := (SH ++ X)) (V1 := V) rfl ?_
      obtain rfl := Option.some.inj h
      exact rn_ret rfl rfl rfl
    · refine rn_brF rfl rfl rfl rfl hc ?_
      refine rn_go 13 (pc' := 25) (l' := [(8, .int (x8 + (1 : Int32))), (6, .long ((x6 * (Int64.ofNat 10)) + (x4 * (x3).toInt64))), (4, .long (x4 * (x3).toInt64)), (2, .int x2), (3, .int x3)]) (st' := []) (S1 := (SH ++ X)) (V1 := V) rfl ?_
      exact rn_sub [3, 4, 2, 1, 0] rfl rfl (ih x2 x3 (x4 * (x3).toInt64) ((x6 * (Int64.ofNat 10)) + (x4 * (x3).toInt64)) (x8 + (1 : Int32)) V _ h)
def d_X_meanTimes (x1 : Int32) (x2 : Int32) (x3 : Int32) (V : ai_V) : Option Int64 :=
  (d_House_chargeOf x1 (gi V 3 1) V).bind fun q1 => (d_X_meanTimes_25 ai_N x2 x3 (q1).toInt64 (q1).toInt64 (1 : Int32) V)
set_option maxRecDepth 20000 in
theorem t_X_meanTimes {X : ai_S} {e : Nat} (hd : 1 ≤ e) {x1 : Int32} {x2 : Int32} {x3 : Int32} {V : ai_V} {r : Int64} (h : d_X_meanTimes x1 x2 x3 V = some r) : Rn e 147 0 (lv_args 0 [.ref 0, .int x1, .int x2, .int x3]) [] (SH ++ X) V (some (.long r)) (SH ++ X) V := by
  rw [d_X_meanTimes] at h
  refine rn_go 6 (pc' := 12) (l' := [(0, .ref 0), (1, .int x1), (2, .int x2), (3, .int x3)]) (st' := [.int (gi V 3 1), .int x1, .ref 3]) (S1 := (SH ++ X)) (V1 := V) rfl ?_
  obtain ⟨q1, hq1, h⟩ := ai_bd h
  refine rn_call rfl rfl rfl rfl rfl rfl (by omega) (t_House_chargeOf (by omega) hq1) ?_
  refine rn_go 6 (pc' := 25) (l' := [(8, .int (1 : Int32)), (6, .long (q1).toInt64), (4, .long (q1).toInt64), (0, .ref 0), (1, .int x1), (2, .int x2), (3, .int x3)]) (st' := []) (S1 := (SH ++ X)) (V1 := V) rfl ?_
  exact rn_sub [5, 6, 2, 1, 0] rfl rfl (t_X_meanTimes_25 (X := X) hd ai_N x2 x3 (q1).toInt64 (q1).toInt64 (1 : Int32) V _ h)
-- RentByTheWheel.tenTo(I)J (None,)
def d_X_tenTo_4  : Nat → Int32 → Int64 → Int32 → ai_V → Option Int64
  | 0, _, _, _, _ => none
  | n + 1, x0, x1, x3, V => if x0 ≤ x3 then (some x1) else (d_X_tenTo_4 n x0 (x1 * (Int64.ofNat 10)) (x3 + (1 : Int32)) V)
set_option maxRecDepth 20000 in
theorem t_X_tenTo_4 {X : ai_S} {e : Nat} (hd : 0 ≤ e)  : ∀ (n : Nat) (x0 : Int32) (x1 : Int64) (x3 : Int32) (V : ai_V) (r : Int64), d_X_tenTo_4  n x0 x1 x3 V = some r → Rn e 148 4 [(0, .int x0), (1, .long x1), (3, .int x3)] [] (SH ++ X) V (some (.long r)) (SH ++ X) V := by
  intro n
  induction n with
  | zero =>
    intro x0 x1 x3 V r h
    cases h
  | succ n ih =>
    intro x0 x1 x3 V r h
    rw [d_X_tenTo_4] at h
    refine rn_go 2 (pc' := 6) (l' := [(0, .int x0), (1, .long x1), (3, .int x3)]) (st' := [.int x0, .int x3]) (S1 := (SH ++ X)) (V1 := V) rfl ?_
    rcases ai_if h with ⟨hc, h⟩ | ⟨hc, h⟩
    · refine rn_brT rfl rfl rfl rfl hc ?_
      refine rn_go 1 (pc' := 22) (l' := [(0, .int x0), (1, .long x1), (3, .int x3)]) (st' := [.long x1]) (S1 := (SH ++ X)) (V1 := V) rfl ?_
      obtain rfl := Option.some.inj h
      exact rn_ret rfl rfl rfl
    · refine rn_brF rfl rfl rfl rfl hc ?_
      refine rn_go 6 (pc' := 4) (l' := [(3, .int (x3 + (1 : Int32))), (1, .long (x1 * (Int64.ofNat 10))), (0, .int x0)]) (st' := []) (S1 := (SH ++ X)) (V1 := V) rfl ?_
      exact rn_sub [2, 1, 0] rfl rfl (ih x0 (x1 * (Int64.ofNat 10)) (x3 + (1 : Int32)) V _ h)
def d_X_tenTo (x0 : Int32) (V : ai_V) : Option Int64 :=
  d_X_tenTo_4 ai_N x0 (Int64.ofNat 1) (0 : Int32) V
set_option maxRecDepth 20000 in
theorem t_X_tenTo {X : ai_S} {e : Nat} (hd : 0 ≤ e) {x0 : Int32} {V : ai_V} {r : Int64} (h : d_X_tenTo x0 V = some r) : Rn e 148 0 (lv_args 0 [.int x0]) [] (SH ++ X) V (some (.long r)) (SH ++ X) V := by
  rw [d_X_tenTo] at h
  refine rn_go 4 (pc' := 4) (l' := [(3, .int (0 : Int32)), (1, .long (Int64.ofNat 1)), (0, .int x0)]) (st' := []) (S1 := (SH ++ X)) (V1 := V) rfl ?_
  exact rn_sub [2, 1, 0] rfl rfl (t_X_tenTo_4 (X := X) hd ai_N x0 (Int64.ofNat 1) (0 : Int32) V _ h)
-- RentByTheWheel.commonDivisor(JJ)J (None, None)
def d_X_commonDivisor_3  : Nat → Int64 → Int64 → Int32 → ai_V → Option Int64
  | 0, _, _, _, _ => none
  | n + 1, x0, x2, x4, V => if (100 : Int32) ≤ x4 then (some x0) else (if (lg_cmp x2 (Int64.ofNat 0)) = 0 then (some x0) else (if x2 = 0 then none else (d_X_commonDivisor_3 n x2 (x0 - x0 / x2 * x2) (x4 + (1 : Int32)) V)))
set_option maxRecDepth 20000 in
theorem t_X_commonDivisor_3 {X : ai_S} {e : Nat} (hd : 0 ≤ e)  : ∀ (n : Nat) (x0 : Int64) (x2 : Int64) (x4 : Int32) (V : ai_V) (r : Int64), d_X_commonDivisor_3  n x0 x2 x4 V = some r → Rn e 149 3 [(0, .long x0), (2, .long x2), (4, .int x4)] [] (SH ++ X) V (some (.long r)) (SH ++ X) V := by
  intro n
  induction n with
  | zero =>
    intro x0 x2 x4 V r h
    cases h
  | succ n ih =>
    intro x0 x2 x4 V r h
    rw [d_X_commonDivisor_3] at h
    refine rn_go 2 (pc' := 7) (l' := [(0, .long x0), (2, .long x2), (4, .int x4)]) (st' := [.int (100 : Int32), .int x4]) (S1 := (SH ++ X)) (V1 := V) rfl ?_
    rcases ai_if h with ⟨hc, h⟩ | ⟨hc, h⟩
    · refine rn_brT rfl rfl rfl rfl hc ?_
      refine rn_go 1 (pc' := 33) (l' := [(0, .long x0), (2, .long x2), (4, .int x4)]) (st' := [.long x0]) (S1 := (SH ++ X)) (V1 := V) rfl ?_
      obtain rfl := Option.some.inj h
      exact rn_ret rfl rfl rfl
    · refine rn_brF rfl rfl rfl rfl hc ?_
      refine rn_go 3 (pc' := 13) (l' := [(0, .long x0), (2, .long x2), (4, .int x4)]) (st' := [.int (lg_cmp x2 (Int64.ofNat 0))]) (S1 := (SH ++ X)) (V1 := V) rfl ?_
      rcases ai_if h with ⟨hc, h⟩ | ⟨hc, h⟩
      · refine rn_brT rfl rfl rfl rfl hc ?_
        refine rn_go 1 (pc' := 33) (l' := [(0, .long x0), (2, .long x2), (4, .int x4)]) (st' := [.long x0]) (S1 := (SH ++ X)) (V1 := V) rfl ?_
        obtain rfl := Option.some.inj h
        exact rn_ret rfl rfl rfl
      · refine rn_brF rfl rfl rfl rfl hc ?_
        refine rn_go 2 (pc' := 18) (l' := [(0, .long x0), (2, .long x2), (4, .int x4)]) (st' := [.long x2, .long x0]) (S1 := (SH ++ X)) (V1 := V) rfl ?_
        obtain ⟨hg, h⟩ := ai_gn h
        refine rg_lrem rfl hg ?_
        refine rn_go 7 (pc' := 3) (l' := [(4, .int (x4 + (1 : Int32))), (2, .long (x0 - x0 / x2 * x2)), (0, .long x2), (5, .long (x0 - x0 / x2 * x2))]) (st' := []) (S1 := (SH ++ X)) (V1 := V) rfl ?_
        exact rn_sub [2, 1, 0] rfl rfl (ih x2 (x0 - x0 / x2 * x2) (x4 + (1 : Int32)) V _ h)
def d_X_commonDivisor (x0 : Int64) (x2 : Int64) (V : ai_V) : Option Int64 :=
  d_X_commonDivisor_3 ai_N x0 x2 (0 : Int32) V
set_option maxRecDepth 20000 in
theorem t_X_commonDivisor {X : ai_S} {e : Nat} (hd : 0 ≤ e) {x0 : Int64} {x2 : Int64} {V : ai_V} {r : Int64} (h : d_X_commonDivisor x0 x2 V = some r) : Rn e 149 0 (lv_args 0 [.long x0, .long x2]) [] (SH ++ X) V (some (.long r)) (SH ++ X) V := by
  rw [d_X_commonDivisor] at h
  refine rn_go 2 (pc' := 3) (l' := [(4, .int (0 : Int32)), (0, .long x0), (2, .long x2)]) (st' := []) (S1 := (SH ++ X)) (V1 := V) rfl ?_
  exact rn_sub [1, 2, 0] rfl rfl (t_X_commonDivisor_3 (X := X) hd ai_N x0 x2 (0 : Int32) V _ h)
-- RentByTheWheel.owes(III)I (0, None, None, None)
def d_X_owes_48  (x4 : Int64) (x6 : Int64) (x8 : Int64) (V : ai_V) : Option (Int32 × ai_V) :=
  if x8 = 0 then none else (if x8 = 0 then none else ((d_Row_tellTwo (x4 / x8) (x6 / x8) V).bind fun q1 => (some ((0 : Int32), q1))))
set_option maxRecDepth 20000 in
theorem t_X_owes_48 {X : ai_S} {e : Nat} (hd : 3 ≤ e)  (x4 : Int64) (x6 : Int64) (x8 : Int64) (V : ai_V) (r : (Int32 × ai_V)) (h : d_X_owes_48  x4 x6 x8 V = some r) : Rn e 150 48 [(0, .ref 0), (4, .long x4), (6, .long x6), (8, .long x8)] [] (SH ++ X) V (some (.int r.1)) (SH ++ X) r.2 := by
  rw [d_X_owes_48] at h
  refine rn_go 4 (pc' := 56) (l' := [(0, .ref 0), (4, .long x4), (6, .long x6), (8, .long x8)]) (st' := [.long x8, .long x4, .ref 22]) (S1 := (SH ++ X)) (V1 := V) rfl ?_
  obtain ⟨hg, h⟩ := ai_gn h
  refine rg_ldiv rfl hg ?_
  refine rn_go 2 (pc' := 61) (l' := [(0, .ref 0), (4, .long x4), (6, .long x6), (8, .long x8)]) (st' := [.long x8, .long x6, .long (x4 / x8), .ref 22]) (S1 := (SH ++ X)) (V1 := V) rfl ?_
  obtain ⟨hg, h⟩ := ai_gn h
  refine rg_ldiv rfl hg ?_
  obtain ⟨q1, hq1, h⟩ := ai_bd h
  refine rn_call rfl rfl rfl rfl rfl rfl (by omega) (t_Row_tellTwo (by omega) hq1) ?_
  refine rn_go 1 (pc' := 66) (l' := [(0, .ref 0), (4, .long x4), (6, .long x6), (8, .long x8)]) (st' := [.int (0 : Int32)]) (S1 := (SH ++ X)) (V1 := q1) rfl ?_
  obtain rfl := Option.some.inj h
  exact rn_ret rfl rfl rfl
def d_X_owes (x1 : Int32) (x2 : Int32) (x3 : Int32) (V : ai_V) : Option (Int32 × ai_V) :=
  (d_X_canLive x1 x2 x3 V).bind fun q2 => (if ¬ q2 = 0 then ((d_X_meanTimes x1 x2 x3 V).bind fun q3 => ((d_X_tenTo (x2 - (1 : Int32)) V).bind fun q4 => ((d_X_commonDivisor q3 q4 V).bind fun q5 => (if 0 ≤ (lg_cmp q5 (Int64.ofNat 1)) then (d_X_owes_48 q3 q4 q5 V) else (d_X_owes_48 q3 q4 (Int64.ofNat 1) V))))) else (some ((-1 : Int32), V)))
set_option maxRecDepth 20000 in
theorem t_X_owes {X : ai_S} {e : Nat} (hd : 3 ≤ e) {x1 : Int32} {x2 : Int32} {x3 : Int32} {V : ai_V} {r : (Int32 × ai_V)} (h : d_X_owes x1 x2 x3 V = some r) : Rn e 150 0 (lv_args 0 [.ref 0, .int x1, .int x2, .int x3]) [] (SH ++ X) V (some (.int r.1)) (SH ++ X) r.2 := by
  rw [d_X_owes] at h
  refine rn_go 4 (pc' := 4) (l' := [(0, .ref 0), (1, .int x1), (2, .int x2), (3, .int x3)]) (st' := [.int x3, .int x2, .int x1, .ref 0]) (S1 := (SH ++ X)) (V1 := V) rfl ?_
  obtain ⟨q2, hq2, h⟩ := ai_bd h
  refine rn_call rfl rfl rfl rfl rfl rfl (by omega) (t_X_canLive (by omega) hq2) ?_
  rcases ai_if h with ⟨hc, h⟩ | ⟨hc, h⟩
  · refine rn_brT rfl rfl rfl rfl hc ?_
    refine rn_go 4 (pc' := 16) (l' := [(0, .ref 0), (1, .int x1), (2, .int x2), (3, .int x3)]) (st' := [.int x3, .int x2, .int x1, .ref 0]) (S1 := (SH ++ X)) (V1 := V) rfl ?_
    obtain ⟨q3, hq3, h⟩ := ai_bd h
    refine rn_call rfl rfl rfl rfl rfl rfl (by omega) (t_X_meanTimes (by omega) hq3) ?_
    refine rn_go 4 (pc' := 24) (l' := [(4, .long q3), (0, .ref 0), (1, .int x1), (2, .int x2), (3, .int x3)]) (st' := [.int (x2 - (1 : Int32))]) (S1 := (SH ++ X)) (V1 := V) rfl ?_
    obtain ⟨q4, hq4, h⟩ := ai_bd h
    refine rn_call rfl rfl rfl rfl rfl rfl (by omega) (t_X_tenTo (by omega) hq4) ?_
    refine rn_go 3 (pc' := 33) (l' := [(6, .long q4), (4, .long q3), (0, .ref 0), (1, .int x1), (2, .int x2), (3, .int x3)]) (st' := [.long q4, .long q3]) (S1 := (SH ++ X)) (V1 := V) rfl ?_
    obtain ⟨q5, hq5, h⟩ := ai_bd h
    refine rn_call rfl rfl rfl rfl rfl rfl (by omega) (t_X_commonDivisor (by omega) hq5) ?_
    refine rn_go 4 (pc' := 42) (l' := [(8, .long q5), (6, .long q4), (4, .long q3), (0, .ref 0), (1, .int x1), (2, .int x2), (3, .int x3)]) (st' := [.int (lg_cmp q5 (Int64.ofNat 1))]) (S1 := (SH ++ X)) (V1 := V) rfl ?_
    rcases ai_if h with ⟨hc, h⟩ | ⟨hc, h⟩
    · refine rn_brT rfl rfl rfl rfl hc ?_
      exact rn_sub [3, 2, 1, 0] rfl rfl (t_X_owes_48 (X := X) hd q3 q4 q5 V _ h)
    · refine rn_brF rfl rfl rfl rfl hc ?_
      refine rn_go 2 (pc' := 48) (l' := [(8, .long (Int64.ofNat 1)), (6, .long q4), (4, .long q3), (0, .ref 0), (1, .int x1), (2, .int x2), (3, .int x3)]) (st' := []) (S1 := (SH ++ X)) (V1 := V) rfl ?_
      exact rn_sub [3, 2, 1, 0] rfl rfl (t_X_owes_48 (X := X) hd q3 q4 (Int64.ofNat 1) V _ h)
  · refine rn_brF rfl rfl rfl rfl hc ?_
    refine rn_go 1 (pc' := 11) (l' := [(0, .ref 0), (1, .int x1), (2, .int x2), (3, .int x3)]) (st' := [.int (-1 : Int32)]) (S1 := (SH ++ X)) (V1 := V) rfl ?_
    obtain rfl := Option.some.inj h
    exact rn_ret rfl rfl rfl
-- RentByTheWheel.fund(III)I (0, None, None, None)
def d_X_fund (x1 : Int32) (x2 : Int32) (x3 : Int32) (V : ai_V) : Option (Int32 × ai_V) :=
  (d_X_canLive x1 x2 x3 V).bind fun q1 => (if ¬ q1 = 0 then ((d_X_tenTo (x2 - (1 : Int32)) V).bind fun q2 => ((d_X_meanTimes x1 x2 x3 V).bind fun q3 => (if ai_in x1 6 then ((d_House_quotientUp (q3 + (((ga V 17 (x1).toNatClampNeg)).toInt64 * q2)) q2 V).bind fun q4 => ((d_House_treadsFor x1 (q4).toInt32 V).bind fun q5 => ((d_Row_tellOne (q5).toInt64 V).bind fun q6 => (some ((q4).toInt32, q6))))) else none))) else (some ((-1 : Int32), V)))
set_option maxRecDepth 20000 in
theorem t_X_fund {X : ai_S} {e : Nat} (hd : 2 ≤ e) {x1 : Int32} {x2 : Int32} {x3 : Int32} {V : ai_V} {r : (Int32 × ai_V)} (h : d_X_fund x1 x2 x3 V = some r) : Rn e 151 0 (lv_args 0 [.ref 0, .int x1, .int x2, .int x3]) [] (SH ++ X) V (some (.int r.1)) (SH ++ X) r.2 := by
  rw [d_X_fund] at h
  refine rn_go 4 (pc' := 4) (l' := [(0, .ref 0), (1, .int x1), (2, .int x2), (3, .int x3)]) (st' := [.int x3, .int x2, .int x1, .ref 0]) (S1 := (SH ++ X)) (V1 := V) rfl ?_
  obtain ⟨q1, hq1, h⟩ := ai_bd h
  refine rn_call rfl rfl rfl rfl rfl rfl (by omega) (t_X_canLive (by omega) hq1) ?_
  rcases ai_if h with ⟨hc, h⟩ | ⟨hc, h⟩
  · refine rn_brT rfl rfl rfl rfl hc ?_
    refine rn_go 3 (pc' := 15) (l' := [(0, .ref 0), (1, .int x1), (2, .int x2), (3, .int x3)]) (st' := [.int (x2 - (1 : Int32))]) (S1 := (SH ++ X)) (V1 := V) rfl ?_
    obtain ⟨q2, hq2, h⟩ := ai_bd h
    refine rn_call rfl rfl rfl rfl rfl rfl (by omega) (t_X_tenTo (by omega) hq2) ?_
    refine rn_go 5 (pc' := 24) (l' := [(4, .long q2), (0, .ref 0), (1, .int x1), (2, .int x2), (3, .int x3)]) (st' := [.int x3, .int x2, .int x1, .ref 0]) (S1 := (SH ++ X)) (V1 := V) rfl ?_
    obtain ⟨q3, hq3, h⟩ := ai_bd h
    refine rn_call rfl rfl rfl rfl rfl rfl (by omega) (t_X_meanTimes (by omega) hq3) ?_
    refine rn_go 4 (pc' := 35) (l' := [(4, .long q2), (0, .ref 0), (1, .int x1), (2, .int x2), (3, .int x3)]) (st' := [.int x1, .ref 17, .long q3]) (S1 := (SH ++ X)) (V1 := V) rfl ?_
    obtain ⟨hg, h⟩ := ai_gd h
    refine rg_iald (n := 6) rfl rfl hg ?_
    refine rn_go 7 (pc' := 47) (l' := [(6, .long (q3 + (((ga V 17 (x1).toNatClampNeg)).toInt64 * q2))), (4, .long q2), (0, .ref 0), (1, .int x1), (2, .int x2), (3, .int x3)]) (st' := [.long q2, .long (q3 + (((ga V 17 (x1).toNatClampNeg)).toInt64 * q2))]) (S1 := (SH ++ X)) (V1 := V) rfl ?_
    obtain ⟨q4, hq4, h⟩ := ai_bd h
    refine rn_call rfl rfl rfl rfl rfl rfl (by omega) (t_House_quotientUp (by omega) hq4) ?_
    refine rn_go 8 (pc' := 64) (l' := [(8, .int (q4).toInt32), (6, .long (q3 + (((ga V 17 (x1).toNatClampNeg)).toInt64 * q2))), (4, .long q2), (0, .ref 0), (1, .int x1), (2, .int x2), (3, .int x3)]) (st' := [.int (q4).toInt32, .int x1, .ref 3, .ref 22]) (S1 := (SH ++ X)) (V1 := V) rfl ?_
    obtain ⟨q5, hq5, h⟩ := ai_bd h
    refine rn_call rfl rfl rfl rfl rfl rfl (by omega) (t_House_treadsFor (by omega) hq5) ?_
    refine rn_go 1 (pc' := 68) (l' := [(8, .int (q4).toInt32), (6, .long (q3 + (((ga V 17 (x1).toNatClampNeg)).toInt64 * q2))), (4, .long q2), (0, .ref 0), (1, .int x1), (2, .int x2), (3, .int x3)]) (st' := [.long (q5).toInt64, .ref 22]) (S1 := (SH ++ X)) (V1 := V) rfl ?_
    obtain ⟨q6, hq6, h⟩ := ai_bd h
    refine rn_call rfl rfl rfl rfl rfl rfl (by omega) (t_Row_tellOne (by omega) hq6) ?_
    refine rn_go 1 (pc' := 73) (l' := [(8, .int (q4).toInt32), (6, .long (q3 + (((ga V 17 (x1).toNatClampNeg)).toInt64 * q2))), (4, .long q2), (0, .ref 0), (1, .int x1), (2, .int x2), (3, .int x3)]) (st' := [.int (q4).toInt32]) (S1 := (SH ++ X)) (V1 := q6) rfl ?_
    obtain rfl := Option.some.inj h
    exact rn_ret rfl rfl rfl
  · refine rn_brF rfl rfl rfl rfl hc ?_
    refine rn_go 1 (pc' := 11) (l' := [(0, .ref 0), (1, .int x1), (2, .int x2), (3, .int x3)]) (st' := [.int (-1 : Int32)]) (S1 := (SH ++ X)) (V1 := V) rfl ?_
    obtain rfl := Option.some.inj h
    exact rn_ret rfl rfl rfl
-- RentByTheWheel$House.firstGreatest([I)I (3, 21)
def d_House_firstGreatest_3_21_23 (F4 : Int32 → Int32 → ai_V → Option Int32) (x2 : Int32) (x3 : Int32) (V : ai_V) : Option Int32 :=
  F4 x2 (x3 + (1 : Int32)) V
set_option maxRecDepth 20000 in
theorem t_House_firstGreatest_3_21_23 {X : ai_S} {e : Nat} (hd : 0 ≤ e) (F4 : Int32 → Int32 → ai_V → Option Int32) (hF4 : ∀ (x2 : Int32) (x3 : Int32) (V : ai_V) (r : Int32), F4 x2 x3 V = some r → Rn e 27 4 [(0, .ref 3), (1, .ref 21), (2, .int x2), (3, .int x3)] [] (SH ++ X) V (some (.int r)) (SH ++ X) V) (x2 : Int32) (x3 : Int32) (V : ai_V) (r : Int32) (h : d_House_firstGreatest_3_21_23 F4 x2 x3 V = some r) : Rn e 27 23 [(0, .ref 3), (1, .ref 21), (2, .int x2), (3, .int x3)] [] (SH ++ X) V (some (.int r)) (SH ++ X) V := by
  rw [d_House_firstGreatest_3_21_23] at h
  refine rn_go 2 (pc' := 4) (l' := [(3, .int (x3 + (1 : Int32))), (0, .ref 3), (1, .ref 21), (2, .int x2)]) (st' := []) (S1 := (SH ++ X)) (V1 := V) rfl ?_
  exact rn_sub [1, 2, 3, 0] rfl rfl (hF4 x2 (x3 + (1 : Int32)) V _ h)
def d_House_firstGreatest_3_21_4  : Nat → Int32 → Int32 → ai_V → Option Int32
  | 0, _, _, _ => none
  | n + 1, x2, x3, V => if (gi V 3 0) ≤ x3 then (some x2) else (if ai_in x3 6 then (if ai_in x2 6 then (if (ga V 21 (x3).toNatClampNeg) ≤ (ga V 21 (x2).toNatClampNeg) then (d_House_firstGreatest_3_21_23 (d_House_firstGreatest_3_21_4 n) x2 x3 V) else (d_House_firstGreatest_3_21_23 (d_House_firstGreatest_3_21_4 n) x3 x3 V)) else none) else none)
set_option maxRecDepth 20000 in
theorem t_House_firstGreatest_3_21_4 {X : ai_S} {e : Nat} (hd : 0 ≤ e)  : ∀ (n : Nat) (x2 : Int32) (x3 : Int32) (V : ai_V) (r : Int32), d_House_firstGreatest_3_21_4  n x2 x3 V = some r → Rn e 27 4 [(0, .ref 3), (1, .ref 21), (2, .int x2), (3, .int x3)] [] (SH ++ X) V (some (.int r)) (SH ++ X) V := by
  intro n
  induction n with
  | zero =>
    intro x2 x3 V r h
    cases h
  | succ n ih =>
    intro x2 x3 V r h
    rw [d_House_firstGreatest_3_21_4] at h
    refine rn_go 3 (pc' := 9) (l' := [(0, .ref 3), (1, .ref 21), (2, .int x2), (3, .int x3)]) (st' := [.int (gi V 3 0), .int x3]) (S1 := (SH ++ X)) (V1 := V) rfl ?_
    rcases ai_if h with ⟨hc, h⟩ | ⟨hc, h⟩
    · refine rn_brT rfl rfl rfl rfl hc ?_
      refine rn_go 1 (pc' := 30) (l' := [(0, .ref 3), (1, .ref 21), (2, .int x2), (3, .int x3)]) (st' := [.int x2]) (S1 := (SH ++ X)) (V1 := V) rfl ?_
      obtain rfl := Option.some.inj h
      exact rn_ret rfl rfl rfl
    · refine rn_brF rfl rfl rfl rfl hc ?_
      refine rn_go 2 (pc' := 14) (l' := [(0, .ref 3), (1, .ref 21), (2, .int x2), (3, .int x3)]) (st' := [.int x3, .ref 21]) (S1 := (SH ++ X)) (V1 := V) rfl ?_
      obtain ⟨hg, h⟩ := ai_gd h
      refine rg_iald (n := 6) rfl rfl hg ?_
      refine rn_go 2 (pc' := 17) (l' := [(0, .ref 3), (1, .ref 21), (2, .int x2), (3, .int x3)]) (st' := [.int x2, .ref 21, .int (ga V 21 (x3).toNatClampNeg)]) (S1 := (SH ++ X)) (V1 := V) rfl ?_
      obtain ⟨hg, h⟩ := ai_gd h
      refine rg_iald (n := 6) rfl rfl hg ?_
      rcases ai_if h with ⟨hc, h⟩ | ⟨hc, h⟩
      · refine rn_brT rfl rfl rfl rfl hc ?_
        exact rn_sub [0, 1, 2, 3] rfl rfl (t_House_firstGreatest_3_21_23 (X := X) hd (d_House_firstGreatest_3_21_4 n) (ih) x2 x3 V _ h)
      · refine rn_brF rfl rfl rfl rfl hc ?_
        refine rn_go 2 (pc' := 23) (l' := [(2, .int x3), (0, .ref 3), (1, .ref 21), (3, .int x3)]) (st' := []) (S1 := (SH ++ X)) (V1 := V) rfl ?_
        exact rn_sub [1, 2, 0, 3] rfl rfl (t_House_firstGreatest_3_21_23 (X := X) hd (d_House_firstGreatest_3_21_4 n) (ih) x3 x3 V _ h)
def d_House_firstGreatest_3_21  (V : ai_V) : Option Int32 :=
  d_House_firstGreatest_3_21_4 ai_N (0 : Int32) (1 : Int32) V
set_option maxRecDepth 20000 in
theorem t_House_firstGreatest_3_21 {X : ai_S} {e : Nat} (hd : 0 ≤ e)  {V : ai_V} {r : Int32} (h : d_House_firstGreatest_3_21  V = some r) : Rn e 27 0 (lv_args 0 [.ref 3, .ref 21]) [] (SH ++ X) V (some (.int r)) (SH ++ X) V := by
  rw [d_House_firstGreatest_3_21] at h
  refine rn_go 4 (pc' := 4) (l' := [(3, .int (1 : Int32)), (2, .int (0 : Int32)), (0, .ref 3), (1, .ref 21)]) (st' := []) (S1 := (SH ++ X)) (V1 := V) rfl ?_
  exact rn_sub [2, 3, 1, 0] rfl rfl (t_House_firstGreatest_3_21_4 (X := X) hd ai_N (0 : Int32) (1 : Int32) V _ h)
-- java/util/Arrays.fill([II)V (21, None)
def d_Arr_fill_21_5  : Nat → Int32 → Int32 → Int32 → ai_V → Option ai_V
  | 0, _, _, _, _ => none
  | n + 1, x1, x2, x3, V => if x3 ≤ x2 then (some V) else (if ai_in x2 6 then (d_Arr_fill_21_5 n x1 (x2 + (1 : Int32)) x3 (sa V 21 (x2).toNatClampNeg x1)) else none)
set_option maxRecDepth 20000 in
theorem t_Arr_fill_21_5 {X : ai_S} {e : Nat} (hd : 0 ≤ e)  : ∀ (n : Nat) (x1 : Int32) (x2 : Int32) (x3 : Int32) (V : ai_V) (r : ai_V), d_Arr_fill_21_5  n x1 x2 x3 V = some r → Rn e 8 5 [(0, .ref 21), (1, .int x1), (2, .int x2), (3, .int x3)] [] (SH ++ X) V none (SH ++ X) r := by
  intro n
  induction n with
  | zero =>
    intro x1 x2 x3 V r h
    cases h
  | succ n ih =>
    intro x1 x2 x3 V r h
    rw [d_Arr_fill_21_5] at h
    refine rn_go 2 (pc' := 7) (l' := [(0, .ref 21), (1, .int x1), (2, .int x2), (3, .int x3)]) (st' := [.int x3, .int x2]) (S1 := (SH ++ X)) (V1 := V) rfl ?_
    rcases ai_if h with ⟨hc, h⟩ | ⟨hc, h⟩
    · refine rn_brT rfl rfl rfl rfl hc ?_
      obtain rfl := Option.some.inj h
      exact rn_ret rfl rfl rfl
    · refine rn_brF rfl rfl rfl rfl hc ?_
      refine rn_go 3 (pc' := 13) (l' := [(0, .ref 21), (1, .int x1), (2, .int x2), (3, .int x3)]) (st' := [.int x1, .int x2, .ref 21]) (S1 := (SH ++ X)) (V1 := V) rfl ?_
      obtain ⟨hg, h⟩ := ai_gd h
      refine rg_iast (n := 6) rfl rfl hg ?_
      refine rn_go 2 (pc' := 5) (l' := [(2, .int (x2 + (1 : Int32))), (0, .ref 21), (1, .int x1), (3, .int x3)]) (st' := []) (S1 := (SH ++ X)) (V1 := (sa V 21 (x2).toNatClampNeg x1)) rfl ?_
      exact rn_sub [1, 2, 0, 3] rfl rfl (ih x1 (x2 + (1 : Int32)) x3 (sa V 21 (x2).toNatClampNeg x1) _ h)
def d_Arr_fill_21 (x1 : Int32) (V : ai_V) : Option ai_V :=
  d_Arr_fill_21_5 ai_N x1 (0 : Int32) (Int32.ofNat 6) V
set_option maxRecDepth 20000 in
theorem t_Arr_fill_21 {X : ai_S} {e : Nat} (hd : 0 ≤ e) {x1 : Int32} {V : ai_V} {r : ai_V} (h : d_Arr_fill_21 x1 V = some r) : Rn e 8 0 (lv_args 0 [.ref 21, .int x1]) [] (SH ++ X) V none (SH ++ X) r := by
  rw [d_Arr_fill_21] at h
  refine rn_go 5 (pc' := 5) (l' := [(3, .int (Int32.ofNat 6)), (2, .int (0 : Int32)), (0, .ref 21), (1, .int x1)]) (st' := []) (S1 := (SH ++ X)) (V1 := V) rfl ?_
  exact rn_sub [2, 3, 1, 0] rfl rfl (t_Arr_fill_21_5 (X := X) hd ai_N x1 (0 : Int32) (Int32.ofNat 6) V _ h)
-- RentByTheWheel.years(II)I (0, None, None)
def d_X_years_190  (x6 : Int32) (s0 : Int64) (s1 : Int64) (s2 : Int64) (V : ai_V) : Option (Int32 × ai_V) :=
  (d_Row_tellThree s2 s1 s0 V).bind fun q1 => (some (x6, q1))
set_option maxRecDepth 20000 in
theorem t_X_years_190 {X : ai_S} {e : Nat} (hd : 4 ≤ e)  (x6 : Int32) (s0 : Int64) (s1 : Int64) (s2 : Int64) (V : ai_V) (r : (Int32 × ai_V)) (h : d_X_years_190  x6 s0 s1 s2 V = some r) : Rn e 152 190 [(6, .int x6)] [.long s0, .long s1, .long s2, .ref 22] (SH ++ X) V (some (.int r.1)) (SH ++ X) r.2 := by
  rw [d_X_years_190] at h
  obtain ⟨q1, hq1, h⟩ := ai_bd h
  refine rn_call rfl rfl rfl rfl rfl rfl (by omega) (t_Row_tellThree (by omega) hq1) ?_
  refine rn_go 1 (pc' := 195) (l' := [(6, .int x6)]) (st' := [.int x6]) (S1 := (SH ++ X)) (V1 := q1) rfl ?_
  obtain rfl := Option.some.inj h
  exact rn_ret rfl rfl rfl
def d_X_years_152  (x6 : Int32) (s0 : Int32) (V : ai_V) : Option (Int32 × ai_V) :=
  (d_House_has s0 V).bind fun q2 => (if q2 = 0 then (d_X_years_190 x6 (Int64.ofNat 0) (s0).toInt64 (((gi V 19 1)).toInt64) V) else (if ai_in s0 6 then (d_X_years_190 x6 (((ga V 21 (s0).toNatClampNeg)).toInt64) (s0).toInt64 (((gi V 19 1)).toInt64) V) else none))
set_option maxRecDepth 20000 in
theorem t_X_years_152 {X : ai_S} {e : Nat} (hd : 4 ≤ e)  (x6 : Int32) (s0 : Int32) (V : ai_V) (r : (Int32 × ai_V)) (h : d_X_years_152  x6 s0 V = some r) : Rn e 152 152 [(0, .ref 0), (3, .ref 19), (6, .int x6)] [.int s0] (SH ++ X) V (some (.int r.1)) (SH ++ X) r.2 := by
  rw [d_X_years_152] at h
  refine rn_go 11 (pc' := 172) (l' := [(7, .int s0), (0, .ref 0), (3, .ref 19), (6, .int x6)]) (st' := [.int s0, .ref 3, .long (s0).toInt64, .long ((gi V 19 1)).toInt64, .ref 22]) (S1 := (SH ++ X)) (V1 := V) rfl ?_
  obtain ⟨q2, hq2, h⟩ := ai_bd h
  refine rn_call rfl rfl rfl rfl rfl rfl (by omega) (t_House_has (by omega) hq2) ?_
  rcases ai_if h with ⟨hc, h⟩ | ⟨hc, h⟩
  · refine rn_brT rfl rfl rfl rfl hc ?_
    refine rn_go 1 (pc' := 190) (l' := [(7, .int s0), (0, .ref 0), (3, .ref 19), (6, .int x6)]) (st' := [.long (Int64.ofNat 0), .long (s0).toInt64, .long ((gi V 19 1)).toInt64, .ref 22]) (S1 := (SH ++ X)) (V1 := V) rfl ?_
    exact rn_sub [3] rfl rfl (t_X_years_190 (X := X) hd x6 (Int64.ofNat 0) (s0).toInt64 (((gi V 19 1)).toInt64) V _ h)
  · refine rn_brF rfl rfl rfl rfl hc ?_
    refine rn_go 3 (pc' := 184) (l' := [(7, .int s0), (0, .ref 0), (3, .ref 19), (6, .int x6)]) (st' := [.int s0, .ref 21, .long (s0).toInt64, .long ((gi V 19 1)).toInt64, .ref 22]) (S1 := (SH ++ X)) (V1 := V) rfl ?_
    obtain ⟨hg, h⟩ := ai_gd h
    refine rg_iald (n := 6) rfl rfl hg ?_
    refine rn_go 2 (pc' := 190) (l' := [(7, .int s0), (0, .ref 0), (3, .ref 19), (6, .int x6)]) (st' := [.long ((ga V 21 (s0).toNatClampNeg)).toInt64, .long (s0).toInt64, .long ((gi V 19 1)).toInt64, .ref 22]) (S1 := (SH ++ X)) (V1 := V) rfl ?_
    exact rn_sub [3] rfl rfl (t_X_years_190 (X := X) hd x6 (((ga V 21 (s0).toNatClampNeg)).toInt64) (s0).toInt64 (((gi V 19 1)).toInt64) V _ h)
def d_X_years_110 (F46 : Int32 → Int32 → Int32 → Int32 → Int32 → ai_V → Option (Int32 × ai_V)) (x2 : Int32) (x4 : Int32) (x5 : Int32) (x6 : Int32) (x7 : Int32) (s0 : Int32) (V : ai_V) : Option (Int32 × ai_V) :=
  (d_Wheel_pass_15_19 s0 (-1 : Int32) V).bind fun q3 => (F46 x2 x4 x5 (x6 + (gi q3 15 5)) (x7 + (1 : Int32)) q3)
set_option maxRecDepth 20000 in
theorem t_X_years_110 {X : ai_S} {e : Nat} (hd : 4 ≤ e) (F46 : Int32 → Int32 → Int32 → Int32 → Int32 → ai_V → Option (Int32 × ai_V)) (hF46 : ∀ (x2 : Int32) (x4 : Int32) (x5 : Int32) (x6 : Int32) (x7 : Int32) (V : ai_V) (r : (Int32 × ai_V)), F46 x2 x4 x5 x6 x7 V = some r → Rn e 152 46 [(0, .ref 0), (2, .int x2), (3, .ref 19), (4, .int x4), (5, .int x5), (6, .int x6), (7, .int x7)] [] (SH ++ X) V (some (.int r.1)) (SH ++ X) r.2) (x2 : Int32) (x4 : Int32) (x5 : Int32) (x6 : Int32) (x7 : Int32) (s0 : Int32) (V : ai_V) (r : (Int32 × ai_V)) (h : d_X_years_110 F46 x2 x4 x5 x6 x7 s0 V = some r) : Rn e 152 110 [(0, .ref 0), (2, .int x2), (3, .ref 19), (4, .int x4), (5, .int x5), (6, .int x6), (7, .int x7)] [.int s0, .ref 19, .ref 15] (SH ++ X) V (some (.int r.1)) (SH ++ X) r.2 := by
  rw [d_X_years_110] at h
  refine rn_go 1 (pc' := 111) (l' := [(0, .ref 0), (2, .int x2), (3, .ref 19), (4, .int x4), (5, .int x5), (6, .int x6), (7, .int x7)]) (st' := [.int (-1 : Int32), .int s0, .ref 19, .ref 15]) (S1 := (SH ++ X)) (V1 := V) rfl ?_
  obtain ⟨q3, hq3, h⟩ := ai_bd h
  refine rn_call rfl rfl rfl rfl rfl rfl (by omega) (t_Wheel_pass_15_19 (by omega) hq3) ?_
  refine rn_go 8 (pc' := 46) (l' := [(7, .int (x7 + (1 : Int32))), (6, .int (x6 + (gi q3 15 5))), (0, .ref 0), (2, .int x2), (3, .ref 19), (4, .int x4), (5, .int x5)]) (st' := []) (S1 := (SH ++ X)) (V1 := q3) rfl ?_
  exact rn_sub [2, 3, 4, 5, 6, 1, 0] rfl rfl (hF46 x2 x4 x5 (x6 + (gi q3 15 5)) (x7 + (1 : Int32)) q3 _ h)
def d_X_years_85 (F46 : Int32 → Int32 → Int32 → Int32 → Int32 → ai_V → Option (Int32 × ai_V)) (x2 : Int32) (x4 : Int32) (x5 : Int32) (x6 : Int32) (x7 : Int32) (s0 : Int32) (V : ai_V) : Option (Int32 × ai_V) :=
  if (gi V 3 0) ≤ s0 then (d_X_years_110 F46 x2 x4 x5 x6 x7 (-1 : Int32) V) else (d_X_years_110 F46 x2 x4 x5 x6 x7 s0 V)
set_option maxRecDepth 20000 in
theorem t_X_years_85 {X : ai_S} {e : Nat} (hd : 4 ≤ e) (F46 : Int32 → Int32 → Int32 → Int32 → Int32 → ai_V → Option (Int32 × ai_V)) (hF46 : ∀ (x2 : Int32) (x4 : Int32) (x5 : Int32) (x6 : Int32) (x7 : Int32) (V : ai_V) (r : (Int32 × ai_V)), F46 x2 x4 x5 x6 x7 V = some r → Rn e 152 46 [(0, .ref 0), (2, .int x2), (3, .ref 19), (4, .int x4), (5, .int x5), (6, .int x6), (7, .int x7)] [] (SH ++ X) V (some (.int r.1)) (SH ++ X) r.2) (x2 : Int32) (x4 : Int32) (x5 : Int32) (x6 : Int32) (x7 : Int32) (s0 : Int32) (V : ai_V) (r : (Int32 × ai_V)) (h : d_X_years_85 F46 x2 x4 x5 x6 x7 s0 V = some r) : Rn e 152 85 [(0, .ref 0), (2, .int x2), (3, .ref 19), (4, .int x4), (5, .int x5), (6, .int x6), (7, .int x7)] [.int s0] (SH ++ X) V (some (.int r.1)) (SH ++ X) r.2 := by
  rw [d_X_years_85] at h
  refine rn_go 8 (pc' := 101) (l' := [(8, .int s0), (0, .ref 0), (2, .int x2), (3, .ref 19), (4, .int x4), (5, .int x5), (6, .int x6), (7, .int x7)]) (st' := [.int (gi V 3 0), .int s0, .ref 19, .ref 15]) (S1 := (SH ++ X)) (V1 := V) rfl ?_
  rcases ai_if h with ⟨hc, h⟩ | ⟨hc, h⟩
  · refine rn_brT rfl rfl rfl rfl hc ?_
    refine rn_go 1 (pc' := 110) (l' := [(8, .int s0), (0, .ref 0), (2, .int x2), (3, .ref 19), (4, .int x4), (5, .int x5), (6, .int x6), (7, .int x7)]) (st' := [.int (-1 : Int32), .ref 19, .ref 15]) (S1 := (SH ++ X)) (V1 := V) rfl ?_
    exact rn_sub [1, 2, 3, 4, 5, 6, 7] rfl rfl (t_X_years_110 (X := X) hd F46 hF46 x2 x4 x5 x6 x7 (-1 : Int32) V _ h)
  · refine rn_brF rfl rfl rfl rfl hc ?_
    refine rn_go 2 (pc' := 110) (l' := [(8, .int s0), (0, .ref 0), (2, .int x2), (3, .ref 19), (4, .int x4), (5, .int x5), (6, .int x6), (7, .int x7)]) (st' := [.int s0, .ref 19, .ref 15]) (S1 := (SH ++ X)) (V1 := V) rfl ?_
    exact rn_sub [1, 2, 3, 4, 5, 6, 7] rfl rfl (t_X_years_110 (X := X) hd F46 hF46 x2 x4 x5 x6 x7 s0 V _ h)
def d_X_years_46  : Nat → Int32 → Int32 → Int32 → Int32 → Int32 → ai_V → Option (Int32 × ai_V)
  | 0, _, _, _, _, _, _ => none
  | n + 1, x2, x4, x5, x6, x7, V => if (x2 * (12 : Int32)) ≤ x7 then (if ¬ x6 = 0 then ((d_House_firstGreatest_3_21  V).bind fun q4 => (d_X_years_152 x6 q4 V)) else (d_X_years_152 x6 (-1 : Int32) V)) else (if (1 : Int32) ≤ x4 then (if x4 = 0 then none else (d_X_years_85 (d_X_years_46 n) x2 x4 ((x5 * (1103515245 : Int32)) + (12345 : Int32)) x6 x7 (((((x5 * (1103515245 : Int32)) + (12345 : Int32))).toUInt32 >>> (((16 : Int32)).toUInt32 &&& Int32.toUInt32 31)).toInt32 - ((((x5 * (1103515245 : Int32)) + (12345 : Int32))).toUInt32 >>> (((16 : Int32)).toUInt32 &&& Int32.toUInt32 31)).toInt32 / x4 * x4) V)) else (d_X_years_85 (d_X_years_46 n) x2 x4 ((x5 * (1103515245 : Int32)) + (12345 : Int32)) x6 x7 (0 : Int32) V))
set_option maxRecDepth 20000 in
theorem t_X_years_46 {X : ai_S} {e : Nat} (hd : 4 ≤ e)  : ∀ (n : Nat) (x2 : Int32) (x4 : Int32) (x5 : Int32) (x6 : Int32) (x7 : Int32) (V : ai_V) (r : (Int32 × ai_V)), d_X_years_46  n x2 x4 x5 x6 x7 V = some r → Rn e 152 46 [(0, .ref 0), (2, .int x2), (3, .ref 19), (4, .int x4), (5, .int x5), (6, .int x6), (7, .int x7)] [] (SH ++ X) V (some (.int r.1)) (SH ++ X) r.2 := by
  intro n
  induction n with
  | zero =>
    intro x2 x4 x5 x6 x7 V r h
    cases h
  | succ n ih =>
    intro x2 x4 x5 x6 x7 V r h
    rw [d_X_years_46] at h
    refine rn_go 4 (pc' := 52) (l' := [(0, .ref 0), (2, .int x2), (3, .ref 19), (4, .int x4), (5, .int x5), (6, .int x6), (7, .int x7)]) (st' := [.int (x2 * (12 : Int32)), .int x7]) (S1 := (SH ++ X)) (V1 := V) rfl ?_
    rcases ai_if h with ⟨hc, h⟩ | ⟨hc, h⟩
    · refine rn_brT rfl rfl rfl rfl hc ?_
      refine rn_go 1 (pc' := 134) (l' := [(0, .ref 0), (2, .int x2), (3, .ref 19), (4, .int x4), (5, .int x5), (6, .int x6), (7, .int x7)]) (st' := [.int x6]) (S1 := (SH ++ X)) (V1 := V) rfl ?_
      rcases ai_if h with ⟨hc, h⟩ | ⟨hc, h⟩
      · refine rn_brT rfl rfl rfl rfl hc ?_
        refine rn_go 4 (pc' := 149) (l' := [(0, .ref 0), (2, .int x2), (3, .ref 19), (4, .int x4), (5, .int x5), (6, .int x6), (7, .int x7)]) (st' := [.ref 21, .ref 3]) (S1 := (SH ++ X)) (V1 := V) rfl ?_
        obtain ⟨q4, hq4, h⟩ := ai_bd h
        refine rn_call rfl rfl rfl rfl rfl rfl (by omega) (t_House_firstGreatest_3_21 (by omega) hq4) ?_
        exact rn_sub [0, 2, 5] rfl rfl (t_X_years_152 (X := X) hd x6 q4 V _ h)
      · refine rn_brF rfl rfl rfl rfl hc ?_
        refine rn_go 2 (pc' := 152) (l' := [(0, .ref 0), (2, .int x2), (3, .ref 19), (4, .int x4), (5, .int x5), (6, .int x6), (7, .int x7)]) (st' := [.int (-1 : Int32)]) (S1 := (SH ++ X)) (V1 := V) rfl ?_
        exact rn_sub [0, 2, 5] rfl rfl (t_X_years_152 (X := X) hd x6 (-1 : Int32) V _ h)
    · refine rn_brF rfl rfl rfl rfl hc ?_
      refine rn_go 8 (pc' := 70) (l' := [(5, .int ((x5 * (1103515245 : Int32)) + (12345 : Int32))), (0, .ref 0), (2, .int x2), (3, .ref 19), (4, .int x4), (6, .int x6), (7, .int x7)]) (st' := [.int (1 : Int32), .int x4]) (S1 := (SH ++ X)) (V1 := V) rfl ?_
      rcases ai_if h with ⟨hc, h⟩ | ⟨hc, h⟩
      · refine rn_brT rfl rfl rfl rfl hc ?_
        refine rn_go 4 (pc' := 84) (l' := [(5, .int ((x5 * (1103515245 : Int32)) + (12345 : Int32))), (0, .ref 0), (2, .int x2), (3, .ref 19), (4, .int x4), (6, .int x6), (7, .int x7)]) (st' := [.int x4, .int ((((x5 * (1103515245 : Int32)) + (12345 : Int32))).toUInt32 >>> (((16 : Int32)).toUInt32 &&& Int32.toUInt32 31)).toInt32]) (S1 := (SH ++ X)) (V1 := V) rfl ?_
        obtain ⟨hg, h⟩ := ai_gn h
        refine rg_irem rfl hg ?_
        exact rn_sub [1, 2, 3, 4, 0, 5, 6] rfl rfl (t_X_years_85 (X := X) hd (d_X_years_46 n) (ih) x2 x4 ((x5 * (1103515245 : Int32)) + (12345 : Int32)) x6 x7 (((((x5 * (1103515245 : Int32)) + (12345 : Int32))).toUInt32 >>> (((16 : Int32)).toUInt32 &&& Int32.toUInt32 31)).toInt32 - ((((x5 * (1103515245 : Int32)) + (12345 : Int32))).toUInt32 >>> (((16 : Int32)).toUInt32 &&& Int32.toUInt32 31)).toInt32 / x4 * x4) V _ h)
      · refine rn_brF rfl rfl rfl rfl hc ?_
        refine rn_go 2 (pc' := 85) (l' := [(5, .int ((x5 * (1103515245 : Int32)) + (12345 : Int32))), (0, .ref 0), (2, .int x2), (3, .ref 19), (4, .int x4), (6, .int x6), (7, .int x7)]) (st' := [.int (0 : Int32)]) (S1 := (SH ++ X)) (V1 := V) rfl ?_
        exact rn_sub [1, 2, 3, 4, 0, 5, 6] rfl rfl (t_X_years_85 (X := X) hd (d_X_years_46 n) (ih) x2 x4 ((x5 * (1103515245 : Int32)) + (12345 : Int32)) x6 x7 (0 : Int32) V _ h)
def d_X_years (x1 : Int32) (x2 : Int32) (V : ai_V) : Option (Int32 × ai_V) :=
  if x2 < (1 : Int32) then (some ((-1 : Int32), V)) else (if x2 ≤ (20 : Int32) then ((d_X_asked  V).bind fun q5 => ((d_Arr_fill_21 (0 : Int32) q5).bind fun q6 => (d_X_years_46 ai_N x2 ((gi q6 3 0) + (1 : Int32)) x1 (0 : Int32) (0 : Int32) q6))) else (some ((-1 : Int32), V)))
set_option maxRecDepth 20000 in
theorem t_X_years {X : ai_S} {e : Nat} (hd : 4 ≤ e) {x1 : Int32} {x2 : Int32} {V : ai_V} {r : (Int32 × ai_V)} (h : d_X_years x1 x2 V = some r) : Rn e 152 0 (lv_args 0 [.ref 0, .int x1, .int x2]) [] (SH ++ X) V (some (.int r.1)) (SH ++ X) r.2 := by
  rw [d_X_years] at h
  refine rn_go 2 (pc' := 2) (l' := [(0, .ref 0), (1, .int x1), (2, .int x2)]) (st' := [.int (1 : Int32), .int x2]) (S1 := (SH ++ X)) (V1 := V) rfl ?_
  rcases ai_if h with ⟨hc, h⟩ | ⟨hc, h⟩
  · refine rn_brT rfl rfl rfl rfl hc ?_
    refine rn_go 1 (pc' := 12) (l' := [(0, .ref 0), (1, .int x1), (2, .int x2)]) (st' := [.int (-1 : Int32)]) (S1 := (SH ++ X)) (V1 := V) rfl ?_
    obtain rfl := Option.some.inj h
    exact rn_ret rfl rfl rfl
  · refine rn_brF rfl rfl rfl rfl hc ?_
    refine rn_go 2 (pc' := 8) (l' := [(0, .ref 0), (1, .int x1), (2, .int x2)]) (st' := [.int (20 : Int32), .int x2]) (S1 := (SH ++ X)) (V1 := V) rfl ?_
    rcases ai_if h with ⟨hc, h⟩ | ⟨hc, h⟩
    · refine rn_brT rfl rfl rfl rfl hc ?_
      refine rn_go 1 (pc' := 14) (l' := [(0, .ref 0), (1, .int x1), (2, .int x2)]) (st' := [.ref 0]) (S1 := (SH ++ X)) (V1 := V) rfl ?_
      obtain ⟨q5, hq5, h⟩ := ai_bd h
      refine rn_call rfl rfl rfl rfl rfl rfl (by omega) (t_X_asked (by omega) hq5) ?_
      refine rn_go 4 (pc' := 23) (l' := [(3, .ref 19), (0, .ref 0), (1, .int x1), (2, .int x2)]) (st' := [.int (0 : Int32), .ref 21]) (S1 := (SH ++ X)) (V1 := q5) rfl ?_
      obtain ⟨q6, hq6, h⟩ := ai_bd h
      refine rn_call rfl rfl rfl rfl rfl rfl (by omega) (t_Arr_fill_21 (by omega) hq6) ?_
      refine rn_go 12 (pc' := 46) (l' := [(7, .int (0 : Int32)), (6, .int (0 : Int32)), (5, .int x1), (4, .int ((gi q6 3 0) + (1 : Int32))), (3, .ref 19), (0, .ref 0), (1, .int x1), (2, .int x2)]) (st' := []) (S1 := (SH ++ X)) (V1 := q6) rfl ?_
      exact rn_sub [5, 7, 4, 3, 2, 1, 0] rfl rfl (t_X_years_46 (X := X) hd ai_N x2 ((gi q6 3 0) + (1 : Int32)) x1 (0 : Int32) (0 : Int32) q6 _ h)
    · refine rn_brF rfl rfl rfl rfl hc ?_
      refine rn_go 1 (pc' := 12) (l' := [(0, .ref 0), (1, .int x1), (2, .int x2)]) (st' := [.int (-1 : Int32)]) (S1 := (SH ++ X)) (V1 := V) rfl ?_
      obtain rfl := Option.some.inj h
      exact rn_ret rfl rfl rfl
-- RentByTheWheel$State.becomes(LRentByTheWheel$State;)V (86, 16)
def d_State_becomes_86_16_25  : Nat → Int32 → ai_V → Option ai_V
  | 0, _, _ => none
  | n + 1, x2, V => if (6 : Int32) ≤ x2 then (some V) else (if ai_in x2 6 then (if ai_in x2 6 then (if ai_in x2 6 then (if ai_in x2 6 then (d_State_becomes_86_16_25 n (x2 + (1 : Int32)) (sa (sa V 87 (x2).toNatClampNeg (ga V 17 (x2).toNatClampNeg)) 88 (x2).toNatClampNeg (ga (sa V 87 (x2).toNatClampNeg (ga V 17 (x2).toNatClampNeg)) 18 (x2).toNatClampNeg))) else none) else none) else none) else none)
set_option maxRecDepth 20000 in
theorem t_State_becomes_86_16_25 {X : ai_S} {e : Nat} (hd : 0 ≤ e)  : ∀ (n : Nat) (x2 : Int32) (V : ai_V) (r : ai_V), d_State_becomes_86_16_25  n x2 V = some r → Rn e 44 25 [(0, .ref 86), (1, .ref 16), (2, .int x2)] [] (SH ++ X) V none (SH ++ X) r := by
  intro n
  induction n with
  | zero =>
    intro x2 V r h
    cases h
  | succ n ih =>
    intro x2 V r h
    rw [d_State_becomes_86_16_25] at h
    refine rn_go 2 (pc' := 28) (l' := [(0, .ref 86), (1, .ref 16), (2, .int x2)]) (st' := [.int (6 : Int32), .int x2]) (S1 := (SH ++ X)) (V1 := V) rfl ?_
    rcases ai_if h with ⟨hc, h⟩ | ⟨hc, h⟩
    · refine rn_brT rfl rfl rfl rfl hc ?_
      obtain rfl := Option.some.inj h
      exact rn_ret rfl rfl rfl
    · refine rn_brF rfl rfl rfl rfl hc ?_
      refine rn_go 6 (pc' := 41) (l' := [(0, .ref 86), (1, .ref 16), (2, .int x2)]) (st' := [.int x2, .ref 17, .int x2, .ref 87]) (S1 := (SH ++ X)) (V1 := V) rfl ?_
      obtain ⟨hg, h⟩ := ai_gd h
      refine rg_iald (n := 6) rfl rfl hg ?_
      obtain ⟨hg, h⟩ := ai_gd h
      refine rg_iast (n := 6) rfl rfl hg ?_
      refine rn_go 6 (pc' := 53) (l' := [(0, .ref 86), (1, .ref 16), (2, .int x2)]) (st' := [.int x2, .ref 18, .int x2, .ref 88]) (S1 := (SH ++ X)) (V1 := (sa V 87 (x2).toNatClampNeg (ga V 17 (x2).toNatClampNeg))) rfl ?_
      obtain ⟨hg, h⟩ := ai_gd h
      refine rg_iald (n := 6) rfl rfl hg ?_
      obtain ⟨hg, h⟩ := ai_gd h
      refine rg_iast (n := 6) rfl rfl hg ?_
      refine rn_go 2 (pc' := 25) (l' := [(2, .int (x2 + (1 : Int32))), (0, .ref 86), (1, .ref 16)]) (st' := []) (S1 := (SH ++ X)) (V1 := (sa (sa V 87 (x2).toNatClampNeg (ga V 17 (x2).toNatClampNeg)) 88 (x2).toNatClampNeg (ga (sa V 87 (x2).toNatClampNeg (ga V 17 (x2).toNatClampNeg)) 18 (x2).toNatClampNeg))) rfl ?_
      exact rn_sub [1, 2, 0] rfl rfl (ih (x2 + (1 : Int32)) (sa (sa V 87 (x2).toNatClampNeg (ga V 17 (x2).toNatClampNeg)) 88 (x2).toNatClampNeg (ga (sa V 87 (x2).toNatClampNeg (ga V 17 (x2).toNatClampNeg)) 18 (x2).toNatClampNeg)) _ h)
def d_State_becomes_86_16  (V : ai_V) : Option ai_V :=
  d_State_becomes_86_16_25 ai_N (0 : Int32) (si (si V 86 0 (gi V 16 0)) 86 1 (ai_min (gi (si V 86 0 (gi V 16 0)) 16 1) (gi (si V 86 0 (gi V 16 0)) 86 2)))
set_option maxRecDepth 20000 in
theorem t_State_becomes_86_16 {X : ai_S} {e : Nat} (hd : 0 ≤ e)  {V : ai_V} {r : ai_V} (h : d_State_becomes_86_16  V = some r) : Rn e 44 0 (lv_args 0 [.ref 86, .ref 16]) [] (SH ++ X) V none (SH ++ X) r := by
  rw [d_State_becomes_86_16] at h
  refine rn_go 13 (pc' := 25) (l' := [(2, .int (0 : Int32)), (0, .ref 86), (1, .ref 16)]) (st' := []) (S1 := (SH ++ X)) (V1 := (si (si V 86 0 (gi V 16 0)) 86 1 (ai_min (gi (si V 86 0 (gi V 16 0)) 16 1) (gi (si V 86 0 (gi V 16 0)) 86 2)))) rfl ?_
  exact rn_sub [1, 2, 0] rfl rfl (t_State_becomes_86_16_25 (X := X) hd ai_N (0 : Int32) (si (si V 86 0 (gi V 16 0)) 86 1 (ai_min (gi (si V 86 0 (gi V 16 0)) 16 1) (gi (si V 86 0 (gi V 16 0)) 86 2))) _ h)
-- RentByTheWheel$State.becomes(LRentByTheWheel$State;)V (83, 16)
def d_State_becomes_83_16_25  : Nat → Int32 → ai_V → Option ai_V
  | 0, _, _ => none
  | n + 1, x2, V => if (6 : Int32) ≤ x2 then (some V) else (if ai_in x2 6 then (if ai_in x2 6 then (if ai_in x2 6 then (if ai_in x2 6 then (d_State_becomes_83_16_25 n (x2 + (1 : Int32)) (sa (sa V 84 (x2).toNatClampNeg (ga V 17 (x2).toNatClampNeg)) 85 (x2).toNatClampNeg (ga (sa V 84 (x2).toNatClampNeg (ga V 17 (x2).toNatClampNeg)) 18 (x2).toNatClampNeg))) else none) else none) else none) else none)
set_option maxRecDepth 20000 in
theorem t_State_becomes_83_16_25 {X : ai_S} {e : Nat} (hd : 0 ≤ e)  : ∀ (n : Nat) (x2 : Int32) (V : ai_V) (r : ai_V), d_State_becomes_83_16_25  n x2 V = some r → Rn e 44 25 [(0, .ref 83), (1, .ref 16), (2, .int x2)] [] (SH ++ X) V none (SH ++ X) r := by
  intro n
  induction n with
  | zero =>
    intro x2 V r h
    cases h
  | succ n ih =>
    intro x2 V r h
    rw [d_State_becomes_83_16_25] at h
    refine rn_go 2 (pc' := 28) (l' := [(0, .ref 83), (1, .ref 16), (2, .int x2)]) (st' := [.int (6 : Int32), .int x2]) (S1 := (SH ++ X)) (V1 := V) rfl ?_
    rcases ai_if h with ⟨hc, h⟩ | ⟨hc, h⟩
    · refine rn_brT rfl rfl rfl rfl hc ?_
      obtain rfl := Option.some.inj h
      exact rn_ret rfl rfl rfl
    · refine rn_brF rfl rfl rfl rfl hc ?_
      refine rn_go 6 (pc' := 41) (l' := [(0, .ref 83), (1, .ref 16), (2, .int x2)]) (st' := [.int x2, .ref 17, .int x2, .ref 84]) (S1 := (SH ++ X)) (V1 := V) rfl ?_
      obtain ⟨hg, h⟩ := ai_gd h
      refine rg_iald (n := 6) rfl rfl hg ?_
      obtain ⟨hg, h⟩ := ai_gd h
      refine rg_iast (n := 6) rfl rfl hg ?_
      refine rn_go 6 (pc' := 53) (l' := [(0, .ref 83), (1, .ref 16), (2, .int x2)]) (st' := [.int x2, .ref 18, .int x2, .ref 85]) (S1 := (SH ++ X)) (V1 := (sa V 84 (x2).toNatClampNeg (ga V 17 (x2).toNatClampNeg))) rfl ?_
      obtain ⟨hg, h⟩ := ai_gd h
      refine rg_iald (n := 6) rfl rfl hg ?_
      obtain ⟨hg, h⟩ := ai_gd h
      refine rg_iast (n := 6) rfl rfl hg ?_
      refine rn_go 2 (pc' := 25) (l' := [(2, .int (x2 + (1 : Int32))), (0, .ref 83), (1, .ref 16)]) (st' := []) (S1 := (SH ++ X)) (V1 := (sa (sa V 84 (x2).toNatClampNeg (ga V 17 (x2).toNatClampNeg)) 85 (x2).toNatClampNeg (ga (sa V 84 (x2).toNatClampNeg (ga V 17 (x2).toNatClampNeg)) 18 (x2).toNatClampNeg))) rfl ?_
      exact rn_sub [1, 2, 0] rfl rfl (ih (x2 + (1 : Int32)) (sa (sa V 84 (x2).toNatClampNeg (ga V 17 (x2).toNatClampNeg)) 85 (x2).toNatClampNeg (ga (sa V 84 (x2).toNatClampNeg (ga V 17 (x2).toNatClampNeg)) 18 (x2).toNatClampNeg)) _ h)
def d_State_becomes_83_16  (V : ai_V) : Option ai_V :=
  d_State_becomes_83_16_25 ai_N (0 : Int32) (si (si V 83 0 (gi V 16 0)) 83 1 (ai_min (gi (si V 83 0 (gi V 16 0)) 16 1) (gi (si V 83 0 (gi V 16 0)) 83 2)))
set_option maxRecDepth 20000 in
theorem t_State_becomes_83_16 {X : ai_S} {e : Nat} (hd : 0 ≤ e)  {V : ai_V} {r : ai_V} (h : d_State_becomes_83_16  V = some r) : Rn e 44 0 (lv_args 0 [.ref 83, .ref 16]) [] (SH ++ X) V none (SH ++ X) r := by
  rw [d_State_becomes_83_16] at h
  refine rn_go 13 (pc' := 25) (l' := [(2, .int (0 : Int32)), (0, .ref 83), (1, .ref 16)]) (st' := []) (S1 := (SH ++ X)) (V1 := (si (si V 83 0 (gi V 16 0)) 83 1 (ai_min (gi (si V 83 0 (gi V 16 0)) 16 1) (gi (si V 83 0 (gi V 16 0)) 83 2)))) rfl ?_
  exact rn_sub [1, 2, 0] rfl rfl (t_State_becomes_83_16_25 (X := X) hd ai_N (0 : Int32) (si (si V 83 0 (gi V 16 0)) 83 1 (ai_min (gi (si V 83 0 (gi V 16 0)) 16 1) (gi (si V 83 0 (gi V 16 0)) 83 2))) _ h)
-- RentByTheWheel.keep(I)Z (0, None)
def d_X_keep (x1 : Int32) (V : ai_V) : Option (Int32 × ai_V) :=
  if x1 < 0 then (some ((0 : Int32), V)) else (if x1 < (2 : Int32) then (if x1 = (0 : Int32) then ((d_State_becomes_83_16  V).bind fun q2 => (if ai_in x1 2 then (some ((1 : Int32), (sa q2 63 (x1).toNatClampNeg (gi q2 3 0)))) else none)) else (if x1 = (1 : Int32) then ((d_State_becomes_86_16  V).bind fun q1 => (if ai_in x1 2 then (some ((1 : Int32), (sa q1 63 (x1).toNatClampNeg (gi q1 3 0)))) else none)) else (none))) else (some ((0 : Int32), V)))
set_option maxRecDepth 20000 in
theorem t_X_keep {X : ai_S} {e : Nat} (hd : 1 ≤ e) {x1 : Int32} {V : ai_V} {r : (Int32 × ai_V)} (h : d_X_keep x1 V = some r) : Rn e 153 0 (lv_args 0 [.ref 0, .int x1]) [] (SH ++ X) V (some (.int r.1)) (SH ++ X) r.2 := by
  rw [d_X_keep] at h
  refine rn_go 1 (pc' := 1) (l' := [(0, .ref 0), (1, .int x1)]) (st' := [.int x1]) (S1 := (SH ++ X)) (V1 := V) rfl ?_
  rcases ai_if h with ⟨hc, h⟩ | ⟨hc, h⟩
  · refine rn_brT rfl rfl rfl rfl hc ?_
    refine rn_go 1 (pc' := 10) (l' := [(0, .ref 0), (1, .int x1)]) (st' := [.int (0 : Int32)]) (S1 := (SH ++ X)) (V1 := V) rfl ?_
    obtain rfl := Option.some.inj h
    exact rg_zret rfl (by decide)
  · refine rn_brF rfl rfl rfl rfl hc ?_
    refine rn_go 2 (pc' := 6) (l' := [(0, .ref 0), (1, .int x1)]) (st' := [.int (2 : Int32), .int x1]) (S1 := (SH ++ X)) (V1 := V) rfl ?_
    rcases ai_if h with ⟨hc, h⟩ | ⟨hc, h⟩
    · refine rn_brT rfl rfl rfl rfl hc ?_
      refine rn_go 3 (pc' := 16) (l' := [(0, .ref 0), (1, .int x1)]) (st' := [.int x1, .ref 62]) (S1 := (SH ++ X)) (V1 := V) rfl ?_
      rcases ai_if h with ⟨hc, h⟩ | ⟨hc, h⟩
      · refine rg_aald (n := 2) (q := 83) rfl rfl (by rw [hc]; decide) (by rw [hc]; rfl) ?_
        refine rn_go 2 (pc' := 21) (l' := [(0, .ref 0), (1, .int x1)]) (st' := [.ref 16, .ref 83]) (S1 := (SH ++ X)) (V1 := V) rfl ?_
        obtain ⟨q2, hq2, h⟩ := ai_bd h
        refine rn_call rfl rfl rfl rfl rfl rfl (by omega) (t_State_becomes_83_16 (by omega) hq2) ?_
        refine rn_go 6 (pc' := 36) (l' := [(0, .ref 0), (1, .int x1)]) (st' := [.int (gi q2 3 0), .int x1, .ref 63]) (S1 := (SH ++ X)) (V1 := q2) rfl ?_
        obtain ⟨hg, h⟩ := ai_gd h
        refine rg_iast (n := 2) rfl rfl hg ?_
        refine rn_go 1 (pc' := 38) (l' := [(0, .ref 0), (1, .int x1)]) (st' := [.int (1 : Int32)]) (S1 := (SH ++ X)) (V1 := (sa q2 63 (x1).toNatClampNeg (gi q2 3 0))) rfl ?_
        obtain rfl := Option.some.inj h
        exact rg_zret rfl (by decide)
      · rcases ai_if h with ⟨hc, h⟩ | ⟨hc, h⟩
        · refine rg_aald (n := 2) (q := 86) rfl rfl (by rw [hc]; decide) (by rw [hc]; rfl) ?_
          refine rn_go 2 (pc' := 21) (l' := [(0, .ref 0), (1, .int x1)]) (st' := [.ref 16, .ref 86]) (S1 := (SH ++ X)) (V1 := V) rfl ?_
          obtain ⟨q1, hq1, h⟩ := ai_bd h
          refine rn_call rfl rfl rfl rfl rfl rfl (by omega) (t_State_becomes_86_16 (by omega) hq1) ?_
          refine rn_go 6 (pc' := 36) (l' := [(0, .ref 0), (1, .int x1)]) (st' := [.int (gi q1 3 0), .int x1, .ref 63]) (S1 := (SH ++ X)) (V1 := q1) rfl ?_
          obtain ⟨hg, h⟩ := ai_gd h
          refine rg_iast (n := 2) rfl rfl hg ?_
          refine rn_go 1 (pc' := 38) (l' := [(0, .ref 0), (1, .int x1)]) (st' := [.int (1 : Int32)]) (S1 := (SH ++ X)) (V1 := (sa q1 63 (x1).toNatClampNeg (gi q1 3 0))) rfl ?_
          obtain rfl := Option.some.inj h
          exact rg_zret rfl (by decide)
        · cases h
    · refine rn_brF rfl rfl rfl rfl hc ?_
      refine rn_go 1 (pc' := 10) (l' := [(0, .ref 0), (1, .int x1)]) (st' := [.int (0 : Int32)]) (S1 := (SH ++ X)) (V1 := V) rfl ?_
      obtain rfl := Option.some.inj h
      exact rg_zret rfl (by decide)
-- RentByTheWheel$State.becomes(LRentByTheWheel$State;)V (16, 86)
def d_State_becomes_16_86_25  : Nat → Int32 → ai_V → Option ai_V
  | 0, _, _ => none
  | n + 1, x2, V => if (6 : Int32) ≤ x2 then (some V) else (if ai_in x2 6 then (if ai_in x2 6 then (if ai_in x2 6 then (if ai_in x2 6 then (d_State_becomes_16_86_25 n (x2 + (1 : Int32)) (sa (sa V 17 (x2).toNatClampNeg (ga V 87 (x2).toNatClampNeg)) 18 (x2).toNatClampNeg (ga (sa V 17 (x2).toNatClampNeg (ga V 87 (x2).toNatClampNeg)) 88 (x2).toNatClampNeg))) else none) else none) else none) else none)
set_option maxRecDepth 20000 in
theorem t_State_becomes_16_86_25 {X : ai_S} {e : Nat} (hd : 0 ≤ e)  : ∀ (n : Nat) (x2 : Int32) (V : ai_V) (r : ai_V), d_State_becomes_16_86_25  n x2 V = some r → Rn e 44 25 [(0, .ref 16), (1, .ref 86), (2, .int x2)] [] (SH ++ X) V none (SH ++ X) r := by
  intro n
  induction n with
  | zero =>
    intro x2 V r h
    cases h
  | succ n ih =>
    intro x2 V r h
    rw [d_State_becomes_16_86_25] at h
    refine rn_go 2 (pc' := 28) (l' := [(0, .ref 16), (1, .ref 86), (2, .int x2)]) (st' := [.int (6 : Int32), .int x2]) (S1 := (SH ++ X)) (V1 := V) rfl ?_
    rcases ai_if h with ⟨hc, h⟩ | ⟨hc, h⟩
    · refine rn_brT rfl rfl rfl rfl hc ?_
      obtain rfl := Option.some.inj h
      exact rn_ret rfl rfl rfl
    · refine rn_brF rfl rfl rfl rfl hc ?_
      refine rn_go 6 (pc' := 41) (l' := [(0, .ref 16), (1, .ref 86), (2, .int x2)]) (st' := [.int x2, .ref 87, .int x2, .ref 17]) (S1 := (SH ++ X)) (V1 := V) rfl ?_
      obtain ⟨hg, h⟩ := ai_gd h
      refine rg_iald (n := 6) rfl rfl hg ?_
      obtain ⟨hg, h⟩ := ai_gd h
      refine rg_iast (n := 6) rfl rfl hg ?_
      refine rn_go 6 (pc' := 53) (l' := [(0, .ref 16), (1, .ref 86), (2, .int x2)]) (st' := [.int x2, .ref 88, .int x2, .ref 18]) (S1 := (SH ++ X)) (V1 := (sa V 17 (x2).toNatClampNeg (ga V 87 (x2).toNatClampNeg))) rfl ?_
      obtain ⟨hg, h⟩ := ai_gd h
      refine rg_iald (n := 6) rfl rfl hg ?_
      obtain ⟨hg, h⟩ := ai_gd h
      refine rg_iast (n := 6) rfl rfl hg ?_
      refine rn_go 2 (pc' := 25) (l' := [(2, .int (x2 + (1 : Int32))), (0, .ref 16), (1, .ref 86)]) (st' := []) (S1 := (SH ++ X)) (V1 := (sa (sa V 17 (x2).toNatClampNeg (ga V 87 (x2).toNatClampNeg)) 18 (x2).toNatClampNeg (ga (sa V 17 (x2).toNatClampNeg (ga V 87 (x2).toNatClampNeg)) 88 (x2).toNatClampNeg))) rfl ?_
      exact rn_sub [1, 2, 0] rfl rfl (ih (x2 + (1 : Int32)) (sa (sa V 17 (x2).toNatClampNeg (ga V 87 (x2).toNatClampNeg)) 18 (x2).toNatClampNeg (ga (sa V 17 (x2).toNatClampNeg (ga V 87 (x2).toNatClampNeg)) 88 (x2).toNatClampNeg)) _ h)
def d_State_becomes_16_86  (V : ai_V) : Option ai_V :=
  d_State_becomes_16_86_25 ai_N (0 : Int32) (si (si V 16 0 (gi V 86 0)) 16 1 (ai_min (gi (si V 16 0 (gi V 86 0)) 86 1) (gi (si V 16 0 (gi V 86 0)) 16 2)))
set_option maxRecDepth 20000 in
theorem t_State_becomes_16_86 {X : ai_S} {e : Nat} (hd : 0 ≤ e)  {V : ai_V} {r : ai_V} (h : d_State_becomes_16_86  V = some r) : Rn e 44 0 (lv_args 0 [.ref 16, .ref 86]) [] (SH ++ X) V none (SH ++ X) r := by
  rw [d_State_becomes_16_86] at h
  refine rn_go 13 (pc' := 25) (l' := [(2, .int (0 : Int32)), (0, .ref 16), (1, .ref 86)]) (st' := []) (S1 := (SH ++ X)) (V1 := (si (si V 16 0 (gi V 86 0)) 16 1 (ai_min (gi (si V 16 0 (gi V 86 0)) 86 1) (gi (si V 16 0 (gi V 86 0)) 16 2)))) rfl ?_
  exact rn_sub [1, 2, 0] rfl rfl (t_State_becomes_16_86_25 (X := X) hd ai_N (0 : Int32) (si (si V 16 0 (gi V 86 0)) 16 1 (ai_min (gi (si V 16 0 (gi V 86 0)) 86 1) (gi (si V 16 0 (gi V 86 0)) 16 2))) _ h)
-- RentByTheWheel$State.becomes(LRentByTheWheel$State;)V (16, 83)
def d_State_becomes_16_83_25  : Nat → Int32 → ai_V → Option ai_V
  | 0, _, _ => none
  | n + 1, x2, V => if (6 : Int32) ≤ x2 then (some V) else (if ai_in x2 6 then (if ai_in x2 6 then (if ai_in x2 6 then (if ai_in x2 6 then (d_State_becomes_16_83_25 n (x2 + (1 : Int32)) (sa (sa V 17 (x2).toNatClampNeg (ga V 84 (x2).toNatClampNeg)) 18 (x2).toNatClampNeg (ga (sa V 17 (x2).toNatClampNeg (ga V 84 (x2).toNatClampNeg)) 85 (x2).toNatClampNeg))) else none) else none) else none) else none)
set_option maxRecDepth 20000 in
theorem t_State_becomes_16_83_25 {X : ai_S} {e : Nat} (hd : 0 ≤ e)  : ∀ (n : Nat) (x2 : Int32) (V : ai_V) (r : ai_V), d_State_becomes_16_83_25  n x2 V = some r → Rn e 44 25 [(0, .ref 16), (1, .ref 83), (2, .int x2)] [] (SH ++ X) V none (SH ++ X) r := by
  intro n
  induction n with
  | zero =>
    intro x2 V r h
    cases h
  | succ n ih =>
    intro x2 V r h
    rw [d_State_becomes_16_83_25] at h
    refine rn_go 2 (pc' := 28) (l' := [(0, .ref 16), (1, .ref 83), (2, .int x2)]) (st' := [.int (6 : Int32), .int x2]) (S1 := (SH ++ X)) (V1 := V) rfl ?_
    rcases ai_if h with ⟨hc, h⟩ | ⟨hc, h⟩
    · refine rn_brT rfl rfl rfl rfl hc ?_
      obtain rfl := Option.some.inj h
      exact rn_ret rfl rfl rfl
    · refine rn_brF rfl rfl rfl rfl hc ?_
      refine rn_go 6 (pc' := 41) (l' := [(0, .ref 16), (1, .ref 83), (2, .int x2)]) (st' := [.int x2, .ref 84, .int x2, .ref 17]) (S1 := (SH ++ X)) (V1 := V) rfl ?_
      obtain ⟨hg, h⟩ := ai_gd h
      refine rg_iald (n := 6) rfl rfl hg ?_
      obtain ⟨hg, h⟩ := ai_gd h
      refine rg_iast (n := 6) rfl rfl hg ?_
      refine rn_go 6 (pc' := 53) (l' := [(0, .ref 16), (1, .ref 83), (2, .int x2)]) (st' := [.int x2, .ref 85, .int x2, .ref 18]) (S1 := (SH ++ X)) (V1 := (sa V 17 (x2).toNatClampNeg (ga V 84 (x2).toNatClampNeg))) rfl ?_
      obtain ⟨hg, h⟩ := ai_gd h
      refine rg_iald (n := 6) rfl rfl hg ?_
      obtain ⟨hg, h⟩ := ai_gd h
      refine rg_iast (n := 6) rfl rfl hg ?_
      refine rn_go 2 (pc' := 25) (l' := [(2, .int (x2 + (1 : Int32))), (0, .ref 16), (1, .ref 83)]) (st' := []) (S1 := (SH ++ X)) (V1 := (sa (sa V 17 (x2).toNatClampNeg (ga V 84 (x2).toNatClampNeg)) 18 (x2).toNatClampNeg (ga (sa V 17 (x2).toNatClampNeg (ga V 84 (x2).toNatClampNeg)) 85 (x2).toNatClampNeg))) rfl ?_
      exact rn_sub [1, 2, 0] rfl rfl (ih (x2 + (1 : Int32)) (sa (sa V 17 (x2).toNatClampNeg (ga V 84 (x2).toNatClampNeg)) 18 (x2).toNatClampNeg (ga (sa V 17 (x2).toNatClampNeg (ga V 84 (x2).toNatClampNeg)) 85 (x2).toNatClampNeg)) _ h)
def d_State_becomes_16_83  (V : ai_V) : Option ai_V :=
  d_State_becomes_16_83_25 ai_N (0 : Int32) (si (si V 16 0 (gi V 83 0)) 16 1 (ai_min (gi (si V 16 0 (gi V 83 0)) 83 1) (gi (si V 16 0 (gi V 83 0)) 16 2)))
set_option maxRecDepth 20000 in
theorem t_State_becomes_16_83 {X : ai_S} {e : Nat} (hd : 0 ≤ e)  {V : ai_V} {r : ai_V} (h : d_State_becomes_16_83  V = some r) : Rn e 44 0 (lv_args 0 [.ref 16, .ref 83]) [] (SH ++ X) V none (SH ++ X) r := by
  rw [d_State_becomes_16_83] at h
  refine rn_go 13 (pc' := 25) (l' := [(2, .int (0 : Int32)), (0, .ref 16), (1, .ref 83)]) (st' := []) (S1 := (SH ++ X)) (V1 := (si (si V 16 0 (gi V 83 0)) 16 1 (ai_min (gi (si V 16 0 (gi V 83 0)) 83 1) (gi (si V 16 0 (gi V 83 0)) 16 2)))) rfl ?_
  exact rn_sub [1, 2, 0] rfl rfl (t_State_becomes_16_83_25 (X := X) hd ai_N (0 : Int32) (si (si V 16 0 (gi V 83 0)) 16 1 (ai_min (gi (si V 16 0 (gi V 83 0)) 83 1) (gi (si V 16 0 (gi V 83 0)) 16 2))) _ h)
-- RentByTheWheel.again(I)Z (0, None)
def d_X_again (x1 : Int32) (V : ai_V) : Option (Int32 × ai_V) :=
  if x1 < 0 then (some ((0 : Int32), V)) else (if (2 : Int32) ≤ x1 then (some ((0 : Int32), V)) else (if ai_in x1 2 then (if (ga V 63 (x1).toNatClampNeg) = (gi V 3 0) then (if x1 = (0 : Int32) then ((d_State_becomes_16_83  V).bind fun q3 => ((d_Past_clear  q3).bind fun q4 => (some ((1 : Int32), q4)))) else (if x1 = (1 : Int32) then ((d_State_becomes_16_86  V).bind fun q1 => ((d_Past_clear  q1).bind fun q2 => (some ((1 : Int32), q2)))) else (none))) else (some ((0 : Int32), V))) else none))
set_option maxRecDepth 20000 in
theorem t_X_again {X : ai_S} {e : Nat} (hd : 1 ≤ e) {x1 : Int32} {V : ai_V} {r : (Int32 × ai_V)} (h : d_X_again x1 V = some r) : Rn e 154 0 (lv_args 0 [.ref 0, .int x1]) [] (SH ++ X) V (some (.int r.1)) (SH ++ X) r.2 := by
  rw [d_X_again] at h
  refine rn_go 1 (pc' := 1) (l' := [(0, .ref 0), (1, .int x1)]) (st' := [.int x1]) (S1 := (SH ++ X)) (V1 := V) rfl ?_
  rcases ai_if h with ⟨hc, h⟩ | ⟨hc, h⟩
  · refine rn_brT rfl rfl rfl rfl hc ?_
    refine rn_go 1 (pc' := 26) (l' := [(0, .ref 0), (1, .int x1)]) (st' := [.int (0 : Int32)]) (S1 := (SH ++ X)) (V1 := V) rfl ?_
    obtain rfl := Option.some.inj h
    exact rg_zret rfl (by decide)
  · refine rn_brF rfl rfl rfl rfl hc ?_
    refine rn_go 2 (pc' := 6) (l' := [(0, .ref 0), (1, .int x1)]) (st' := [.int (2 : Int32), .int x1]) (S1 := (SH ++ X)) (V1 := V) rfl ?_
    rcases ai_if h with ⟨hc, h⟩ | ⟨hc, h⟩
    · refine rn_brT rfl rfl rfl rfl hc ?_
      refine rn_go 1 (pc' := 26) (l' := [(0, .ref 0), (1, .int x1)]) (st' := [.int (0 : Int32)]) (S1 := (SH ++ X)) (V1 := V) rfl ?_
      obtain rfl := Option.some.inj h
      exact rg_zret rfl (by decide)
    · refine rn_brF rfl rfl rfl rfl hc ?_
      refine rn_go 3 (pc' := 14) (l' := [(0, .ref 0), (1, .int x1)]) (st' := [.int x1, .ref 63]) (S1 := (SH ++ X)) (V1 := V) rfl ?_
      obtain ⟨hg, h⟩ := ai_gd h
      refine rg_iald (n := 2) rfl rfl hg ?_
      refine rn_go 3 (pc' := 22) (l' := [(0, .ref 0), (1, .int x1)]) (st' := [.int (gi V 3 0), .int (ga V 63 (x1).toNatClampNeg)]) (S1 := (SH ++ X)) (V1 := V) rfl ?_
      rcases ai_if h with ⟨hc, h⟩ | ⟨hc, h⟩
      · refine rn_brT rfl rfl rfl rfl hc ?_
        refine rn_go 5 (pc' := 36) (l' := [(0, .ref 0), (1, .int x1)]) (st' := [.int x1, .ref 62, .ref 16]) (S1 := (SH ++ X)) (V1 := V) rfl ?_
        rcases ai_if h with ⟨hc, h⟩ | ⟨hc, h⟩
        · refine rg_aald (n := 2) (q := 83) rfl rfl (by rw [hc]; decide) (by rw [hc]; rfl) ?_
          obtain ⟨q3, hq3, h⟩ := ai_bd h
          refine rn_call rfl rfl rfl rfl rfl rfl (by omega) (t_State_becomes_16_83 (by omega) hq3) ?_
          refine rn_go 2 (pc' := 44) (l' := [(0, .ref 0), (1, .int x1)]) (st' := [.ref 24]) (S1 := (SH ++ X)) (V1 := q3) rfl ?_
          obtain ⟨q4, hq4, h⟩ := ai_bd h
          refine rn_call rfl rfl rfl rfl rfl rfl (by omega) (t_Past_clear (by omega) hq4) ?_
          refine rn_go 1 (pc' := 48) (l' := [(0, .ref 0), (1, .int x1)]) (st' := [.int (1 : Int32)]) (S1 := (SH ++ X)) (V1 := q4) rfl ?_
          obtain rfl := Option.some.inj h
          exact rg_zret rfl (by decide)
        · rcases ai_if h with ⟨hc, h⟩ | ⟨hc, h⟩
          · refine rg_aald (n := 2) (q := 86) rfl rfl (by rw [hc]; decide) (by rw [hc]; rfl) ?_
            obtain ⟨q1, hq1, h⟩ := ai_bd h
            refine rn_call rfl rfl rfl rfl rfl rfl (by omega) (t_State_becomes_16_86 (by omega) hq1) ?_
            refine rn_go 2 (pc' := 44) (l' := [(0, .ref 0), (1, .int x1)]) (st' := [.ref 24]) (S1 := (SH ++ X)) (V1 := q1) rfl ?_
            obtain ⟨q2, hq2, h⟩ := ai_bd h
            refine rn_call rfl rfl rfl rfl rfl rfl (by omega) (t_Past_clear (by omega) hq2) ?_
            refine rn_go 1 (pc' := 48) (l' := [(0, .ref 0), (1, .int x1)]) (st' := [.int (1 : Int32)]) (S1 := (SH ++ X)) (V1 := q2) rfl ?_
            obtain rfl := Option.some.inj h
            exact rg_zret rfl (by decide)
          · cases h
      · refine rn_brF rfl rfl rfl rfl hc ?_
        refine rn_go 1 (pc' := 26) (l' := [(0, .ref 0), (1, .int x1)]) (st' := [.int (0 : Int32)]) (S1 := (SH ++ X)) (V1 := V) rfl ?_
        obtain rfl := Option.some.inj h
        exact rg_zret rfl (by decide)
-- RentByTheWheel$State.dryInAll()I (16,)
def d_State_dryInAll_4  : Nat → Int32 → Int32 → ai_V → Option Int32
  | 0, _, _, _ => none
  | n + 1, x1, x2, V => if (6 : Int32) ≤ x2 then (some x1) else (if ai_in x2 6 then (d_State_dryInAll_4 n (x1 + (ga V 18 (x2).toNatClampNeg)) (x2 + (1 : Int32)) V) else none)
set_option maxRecDepth 20000 in
theorem t_State_dryInAll_4 {X : ai_S} {e : Nat} (hd : 0 ≤ e)  : ∀ (n : Nat) (x1 : Int32) (x2 : Int32) (V : ai_V) (r : Int32), d_State_dryInAll_4  n x1 x2 V = some r → Rn e 77 4 [(0, .ref 16), (1, .int x1), (2, .int x2)] [] (SH ++ X) V (some (.int r)) (SH ++ X) V := by
  intro n
  induction n with
  | zero =>
    intro x1 x2 V r h
    cases h
  | succ n ih =>
    intro x1 x2 V r h
    rw [d_State_dryInAll_4] at h
    refine rn_go 2 (pc' := 7) (l' := [(0, .ref 16), (1, .int x1), (2, .int x2)]) (st' := [.int (6 : Int32), .int x2]) (S1 := (SH ++ X)) (V1 := V) rfl ?_
    rcases ai_if h with ⟨hc, h⟩ | ⟨hc, h⟩
    · refine rn_brT rfl rfl rfl rfl hc ?_
      refine rn_go 1 (pc' := 26) (l' := [(0, .ref 16), (1, .int x1), (2, .int x2)]) (st' := [.int x1]) (S1 := (SH ++ X)) (V1 := V) rfl ?_
      obtain rfl := Option.some.inj h
      exact rn_ret rfl rfl rfl
    · refine rn_brF rfl rfl rfl rfl hc ?_
      refine rn_go 4 (pc' := 16) (l' := [(0, .ref 16), (1, .int x1), (2, .int x2)]) (st' := [.int x2, .ref 18, .int x1]) (S1 := (SH ++ X)) (V1 := V) rfl ?_
      obtain ⟨hg, h⟩ := ai_gd h
      refine rg_iald (n := 6) rfl rfl hg ?_
      refine rn_go 4 (pc' := 4) (l' := [(2, .int (x2 + (1 : Int32))), (1, .int (x1 + (ga V 18 (x2).toNatClampNeg))), (0, .ref 16)]) (st' := []) (S1 := (SH ++ X)) (V1 := V) rfl ?_
      exact rn_sub [2, 1, 0] rfl rfl (ih (x1 + (ga V 18 (x2).toNatClampNeg)) (x2 + (1 : Int32)) V _ h)
def d_State_dryInAll  (V : ai_V) : Option Int32 :=
  d_State_dryInAll_4 ai_N (0 : Int32) (0 : Int32) V
set_option maxRecDepth 20000 in
theorem t_State_dryInAll {X : ai_S} {e : Nat} (hd : 0 ≤ e)  {V : ai_V} {r : Int32} (h : d_State_dryInAll  V = some r) : Rn e 77 0 (lv_args 0 [.ref 16]) [] (SH ++ X) V (some (.int r)) (SH ++ X) V := by
  rw [d_State_dryInAll] at h
  refine rn_go 4 (pc' := 4) (l' := [(2, .int (0 : Int32)), (1, .int (0 : Int32)), (0, .ref 16)]) (st' := []) (S1 := (SH ++ X)) (V1 := V) rfl ?_
  exact rn_sub [2, 1, 0] rfl rfl (t_State_dryInAll_4 (X := X) hd ai_N (0 : Int32) (0 : Int32) V _ h)
