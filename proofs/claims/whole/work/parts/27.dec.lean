/-! ===== printed by wip/gen/gen.py: methods as functions, and that the machine runs so ===== -/
-- java/lang/String.length()I (999999,)
def d_Str_length  (V : ai_V) : Option Int32 :=
  (d_Str_coder  V).bind fun q1 => (some ((7 : Int32) >>> (q1 &&& 31)))
set_option maxRecDepth 20000 in
theorem t_Str_length {X : ai_S} {e : Nat} (hd : 1 ≤ e)  {V : ai_V} {r : Int32} (h : d_Str_length  V = some r) : Rn e 1 0 (lv_args 0 [.ref 999999]) [] (SH ++ X) V (some (.int r)) (SH ++ X) V := by
  rw [d_Str_length] at h
  refine rn_go 4 (pc' := 6) (l' := [(0, .ref 999999)]) (st' := [.ref 999999, .int (7 : Int32)]) (S1 := (SH ++ X)) (V1 := V) rfl ?_
  obtain ⟨q1, hq1, h⟩ := ai_bd h
  refine rn_call rfl rfl rfl rfl rfl rfl (by omega) (t_Str_coder (by omega) hq1) ?_
  refine rn_go 1 (pc' := 10) (l' := [(0, .ref 999999)]) (st' := [.int ((7 : Int32) >>> (q1 &&& 31))]) (S1 := (SH ++ X)) (V1 := V) rfl ?_
  obtain rfl := Option.some.inj h
  exact rn_ret rfl rfl rfl
-- java/lang/StringLatin1.canEncode(I)Z (None,)
def d_Lat_canEncode (x0 : Int32) (V : ai_V) : Option Int32 :=
  if x0 < 0 then (some (0 : Int32)) else (if (255 : Int32) < x0 then (some (0 : Int32)) else (some (1 : Int32)))
set_option maxRecDepth 20000 in
theorem t_Lat_canEncode {X : ai_S} {e : Nat} (hd : 0 ≤ e) {x0 : Int32} {V : ai_V} {r : Int32} (h : d_Lat_canEncode x0 V = some r) : Rn e 3 0 (lv_args 0 [.int x0]) [] (SH ++ X) V (some (.int r)) (SH ++ X) V := by
  rw [d_Lat_canEncode] at h
  refine rn_go 1 (pc' := 1) (l' := [(0, .int x0)]) (st' := [.int x0]) (S1 := (SH ++ X)) (V1 := V) rfl ?_
  rcases ai_if h with ⟨hc, h⟩ | ⟨hc, h⟩
  · refine rn_brT rfl rfl rfl rfl hc ?_
    refine rn_go 1 (pc' := 16) (l' := [(0, .int x0)]) (st' := [.int (0 : Int32)]) (S1 := (SH ++ X)) (V1 := V) rfl ?_
    obtain rfl := Option.some.inj h
    exact rg_zret rfl (by decide)
  · refine rn_brF rfl rfl rfl rfl hc ?_
    refine rn_go 2 (pc' := 8) (l' := [(0, .int x0)]) (st' := [.int (255 : Int32), .int x0]) (S1 := (SH ++ X)) (V1 := V) rfl ?_
    rcases ai_if h with ⟨hc, h⟩ | ⟨hc, h⟩
    · refine rn_brT rfl rfl rfl rfl hc ?_
      refine rn_go 1 (pc' := 16) (l' := [(0, .int x0)]) (st' := [.int (0 : Int32)]) (S1 := (SH ++ X)) (V1 := V) rfl ?_
      obtain rfl := Option.some.inj h
      exact rg_zret rfl (by decide)
    · refine rn_brF rfl rfl rfl rfl hc ?_
      refine rn_go 2 (pc' := 16) (l' := [(0, .int x0)]) (st' := [.int (1 : Int32)]) (S1 := (SH ++ X)) (V1 := V) rfl ?_
      obtain rfl := Option.some.inj h
      exact rg_zret rfl (by decide)
-- java/lang/StringLatin1.indexOfChar([BIII)I (999998, None, None, None)
def d_Lat_indexOfChar_7  : Nat → Int32 → Int32 → Int32 → ai_V → Option Int32
  | 0, _, _, _, _ => none
  | n + 1, x3, x4, x5, V => if x3 ≤ x5 then (some (-1 : Int32)) else (if ai_in x5 7 then (if ¬ (ai_sb (x5).toNatClampNeg) = x4 then (d_Lat_indexOfChar_7 n x3 x4 (x5 + (1 : Int32)) V) else (some x5)) else none)
set_option maxRecDepth 20000 in
theorem t_Lat_indexOfChar_7 {X : ai_S} {e : Nat} (hd : 0 ≤ e)  : ∀ (n : Nat) (x3 : Int32) (x4 : Int32) (x5 : Int32) (V : ai_V) (r : Int32), d_Lat_indexOfChar_7  n x3 x4 x5 V = some r → Rn e 4 7 [(0, .ref 999998), (3, .int x3), (4, .int x4), (5, .int x5)] [] (SH ++ X) V (some (.int r)) (SH ++ X) V := by
  intro n
  induction n with
  | zero =>
    intro x3 x4 x5 V r h
    cases h
  | succ n ih =>
    intro x3 x4 x5 V r h
    rw [d_Lat_indexOfChar_7] at h
    refine rn_go 2 (pc' := 10) (l' := [(0, .ref 999998), (3, .int x3), (4, .int x4), (5, .int x5)]) (st' := [.int x3, .int x5]) (S1 := (SH ++ X)) (V1 := V) rfl ?_
    rcases ai_if h with ⟨hc, h⟩ | ⟨hc, h⟩
    · refine rn_brT rfl rfl rfl rfl hc ?_
      refine rn_go 1 (pc' := 32) (l' := [(0, .ref 999998), (3, .int x3), (4, .int x4), (5, .int x5)]) (st' := [.int (-1 : Int32)]) (S1 := (SH ++ X)) (V1 := V) rfl ?_
      obtain rfl := Option.some.inj h
      exact rn_ret rfl rfl rfl
    · refine rn_brF rfl rfl rfl rfl hc ?_
      refine rn_go 2 (pc' := 16) (l' := [(0, .ref 999998), (3, .int x3), (4, .int x4), (5, .int x5)]) (st' := [.int x5, .ref 999998]) (S1 := (SH ++ X)) (V1 := V) rfl ?_
      obtain ⟨hg, h⟩ := ai_gd h
      refine rg_xb rfl hg ?_
      refine rn_go 1 (pc' := 19) (l' := [(0, .ref 999998), (3, .int x3), (4, .int x4), (5, .int x5)]) (st' := [.int x4, .int (ai_sb (x5).toNatClampNeg)]) (S1 := (SH ++ X)) (V1 := V) rfl ?_
      rcases ai_if h with ⟨hc, h⟩ | ⟨hc, h⟩
      · refine rn_brT rfl rfl rfl rfl hc ?_
        refine rn_go 2 (pc' := 7) (l' := [(5, .int (x5 + (1 : Int32))), (0, .ref 999998), (3, .int x3), (4, .int x4)]) (st' := []) (S1 := (SH ++ X)) (V1 := V) rfl ?_
        exact rn_sub [1, 2, 3, 0] rfl rfl (ih x3 x4 (x5 + (1 : Int32)) V _ h)
      · refine rn_brF rfl rfl rfl rfl hc ?_
        refine rn_go 1 (pc' := 24) (l' := [(0, .ref 999998), (3, .int x3), (4, .int x4), (5, .int x5)]) (st' := [.int x5]) (S1 := (SH ++ X)) (V1 := V) rfl ?_
        obtain rfl := Option.some.inj h
        exact rn_ret rfl rfl rfl
def d_Lat_indexOfChar (x1 : Int32) (x2 : Int32) (x3 : Int32) (V : ai_V) : Option Int32 :=
  d_Lat_indexOfChar_7 ai_N x3 (x1).toInt8.toInt32 x2 V
set_option maxRecDepth 20000 in
theorem t_Lat_indexOfChar {X : ai_S} {e : Nat} (hd : 0 ≤ e) {x1 : Int32} {x2 : Int32} {x3 : Int32} {V : ai_V} {r : Int32} (h : d_Lat_indexOfChar x1 x2 x3 V = some r) : Rn e 4 0 (lv_args 0 [.ref 999998, .int x1, .int x2, .int x3]) [] (SH ++ X) V (some (.int r)) (SH ++ X) V := by
  rw [d_Lat_indexOfChar] at h
  refine rn_go 5 (pc' := 7) (l' := [(5, .int x2), (4, .int (x1).toInt8.toInt32), (0, .ref 999998), (1, .int x1), (2, .int x2), (3, .int x3)]) (st' := []) (S1 := (SH ++ X)) (V1 := V) rfl ?_
  exact rn_sub [2, 5, 1, 0] rfl rfl (t_Lat_indexOfChar_7 (X := X) hd ai_N x3 (x1).toInt8.toInt32 x2 V _ h)
-- java/lang/StringLatin1.indexOf([BIII)I (999998, None, None, None)
def d_Lat_indexOf (x1 : Int32) (x2 : Int32) (x3 : Int32) (V : ai_V) : Option Int32 :=
  (d_Lat_canEncode x1 V).bind fun q1 => (if ¬ q1 = 0 then (if (ai_max x2 (0 : Int32)) < (ai_min x3 (7 : Int32)) then ((d_Lat_indexOfChar x1 (ai_max x2 (0 : Int32)) (ai_min x3 (7 : Int32)) V).bind fun q2 => (some q2)) else (some (-1 : Int32))) else (some (-1 : Int32)))
set_option maxRecDepth 20000 in
theorem t_Lat_indexOf {X : ai_S} {e : Nat} (hd : 1 ≤ e) {x1 : Int32} {x2 : Int32} {x3 : Int32} {V : ai_V} {r : Int32} (h : d_Lat_indexOf x1 x2 x3 V = some r) : Rn e 5 0 (lv_args 0 [.ref 999998, .int x1, .int x2, .int x3]) [] (SH ++ X) V (some (.int r)) (SH ++ X) V := by
  rw [d_Lat_indexOf] at h
  refine rn_go 1 (pc' := 1) (l' := [(0, .ref 999998), (1, .int x1), (2, .int x2), (3, .int x3)]) (st' := [.int x1]) (S1 := (SH ++ X)) (V1 := V) rfl ?_
  obtain ⟨q1, hq1, h⟩ := ai_bd h
  refine rn_call rfl rfl rfl rfl rfl rfl (by omega) (t_Lat_canEncode (by omega) hq1) ?_
  rcases ai_if h with ⟨hc, h⟩ | ⟨hc, h⟩
  · refine rn_brT rfl rfl rfl rfl hc ?_
    refine rn_go 11 (pc' := 24) (l' := [(3, .int (ai_min x3 (7 : Int32))), (2, .int (ai_max x2 (0 : Int32))), (0, .ref 999998), (1, .int x1)]) (st' := [.int (ai_min x3 (7 : Int32)), .int (ai_max x2 (0 : Int32))]) (S1 := (SH ++ X)) (V1 := V) rfl ?_
    rcases ai_if h with ⟨hc, h⟩ | ⟨hc, h⟩
    · refine rn_brT rfl rfl rfl rfl hc ?_
      refine rn_go 4 (pc' := 33) (l' := [(3, .int (ai_min x3 (7 : Int32))), (2, .int (ai_max x2 (0 : Int32))), (0, .ref 999998), (1, .int x1)]) (st' := [.int (ai_min x3 (7 : Int32)), .int (ai_max x2 (0 : Int32)), .int x1, .ref 999998]) (S1 := (SH ++ X)) (V1 := V) rfl ?_
      obtain ⟨q2, hq2, h⟩ := ai_bd h
      refine rn_call rfl rfl rfl rfl rfl rfl (by omega) (t_Lat_indexOfChar (by omega) hq2) ?_
      obtain rfl := Option.some.inj h
      exact rn_ret rfl rfl rfl
    · refine rn_brF rfl rfl rfl rfl hc ?_
      refine rn_go 1 (pc' := 28) (l' := [(3, .int (ai_min x3 (7 : Int32))), (2, .int (ai_max x2 (0 : Int32))), (0, .ref 999998), (1, .int x1)]) (st' := [.int (-1 : Int32)]) (S1 := (SH ++ X)) (V1 := V) rfl ?_
      obtain rfl := Option.some.inj h
      exact rn_ret rfl rfl rfl
  · refine rn_brF rfl rfl rfl rfl hc ?_
    refine rn_go 1 (pc' := 8) (l' := [(0, .ref 999998), (1, .int x1), (2, .int x2), (3, .int x3)]) (st' := [.int (-1 : Int32)]) (S1 := (SH ++ X)) (V1 := V) rfl ?_
    obtain rfl := Option.some.inj h
    exact rn_ret rfl rfl rfl
-- java/lang/String.indexOf(II)I (999999, None, None)
def d_Str_indexOf2 (x1 : Int32) (x2 : Int32) (V : ai_V) : Option Int32 :=
  (d_Str_isLatin1  V).bind fun q1 => (if q1 = 0 then ((d_Str_length  V).bind fun q2 => (none)) else ((d_Str_length  V).bind fun q3 => ((d_Lat_indexOf x1 x2 q3 V).bind fun q4 => (some q4))))
set_option maxRecDepth 20000 in
theorem t_Str_indexOf2 {X : ai_S} {e : Nat} (hd : 2 ≤ e) {x1 : Int32} {x2 : Int32} {V : ai_V} {r : Int32} (h : d_Str_indexOf2 x1 x2 V = some r) : Rn e 6 0 (lv_args 0 [.ref 999999, .int x1, .int x2]) [] (SH ++ X) V (some (.int r)) (SH ++ X) V := by
  rw [d_Str_indexOf2] at h
  refine rn_go 1 (pc' := 1) (l' := [(0, .ref 999999), (1, .int x1), (2, .int x2)]) (st' := [.ref 999999]) (S1 := (SH ++ X)) (V1 := V) rfl ?_
  obtain ⟨q1, hq1, h⟩ := ai_bd h
  refine rn_call rfl rfl rfl rfl rfl rfl (by omega) (t_Str_isLatin1 (by omega) hq1) ?_
  rcases ai_if h with ⟨hc, h⟩ | ⟨hc, h⟩
  · refine rn_brT rfl rfl rfl rfl hc ?_
    refine rn_go 5 (pc' := 30) (l' := [(0, .ref 999999), (1, .int x1), (2, .int x2)]) (st' := [.ref 999999, .int x2, .int x1, .ref 999998]) (S1 := (SH ++ X)) (V1 := V) rfl ?_
    obtain ⟨q2, hq2, h⟩ := ai_bd h
    refine rn_call rfl rfl rfl rfl rfl rfl (by omega) (t_Str_length (by omega) hq2) ?_
    cases h
  · refine rn_brF rfl rfl rfl rfl hc ?_
    refine rn_go 5 (pc' := 14) (l' := [(0, .ref 999999), (1, .int x1), (2, .int x2)]) (st' := [.ref 999999, .int x2, .int x1, .ref 999998]) (S1 := (SH ++ X)) (V1 := V) rfl ?_
    obtain ⟨q3, hq3, h⟩ := ai_bd h
    refine rn_call rfl rfl rfl rfl rfl rfl (by omega) (t_Str_length (by omega) hq3) ?_
    obtain ⟨q4, hq4, h⟩ := ai_bd h
    refine rn_call rfl rfl rfl rfl rfl rfl (by omega) (t_Lat_indexOf (by omega) hq4) ?_
    refine rn_go 1 (pc' := 36) (l' := [(0, .ref 999999), (1, .int x1), (2, .int x2)]) (st' := [.int q4]) (S1 := (SH ++ X)) (V1 := V) rfl ?_
    obtain rfl := Option.some.inj h
    exact rn_ret rfl rfl rfl
-- java/lang/String.indexOf(I)I (999999, None)
def d_Str_indexOf (x1 : Int32) (V : ai_V) : Option Int32 :=
  (d_Str_indexOf2 x1 (0 : Int32) V).bind fun q1 => (some q1)
set_option maxRecDepth 20000 in
theorem t_Str_indexOf {X : ai_S} {e : Nat} (hd : 3 ≤ e) {x1 : Int32} {V : ai_V} {r : Int32} (h : d_Str_indexOf x1 V = some r) : Rn e 7 0 (lv_args 0 [.ref 999999, .int x1]) [] (SH ++ X) V (some (.int r)) (SH ++ X) V := by
  rw [d_Str_indexOf] at h
  refine rn_go 3 (pc' := 3) (l' := [(0, .ref 999999), (1, .int x1)]) (st' := [.int (0 : Int32), .int x1, .ref 999999]) (S1 := (SH ++ X)) (V1 := V) rfl ?_
  obtain ⟨q1, hq1, h⟩ := ai_bd h
  refine rn_call rfl rfl rfl rfl rfl rfl (by omega) (t_Str_indexOf2 (by omega) hq1) ?_
  obtain rfl := Option.some.inj h
  exact rn_ret rfl rfl rfl
-- RentByTheWheel$Rule.here()I (10,)
def d_Rule_here  (V : ai_V) : Option Int32 :=
  if (40 : Int32) ≤ (gi V 10 7) then (some (-1 : Int32)) else ((d_Text_at (gi V 10 7) V).bind fun q1 => (some q1))
set_option maxRecDepth 20000 in
theorem t_Rule_here {X : ai_S} {e : Nat} (hd : 1 ≤ e)  {V : ai_V} {r : Int32} (h : d_Rule_here  V = some r) : Rn e 68 0 (lv_args 0 [.ref 10]) [] (SH ++ X) V (some (.int r)) (SH ++ X) V := by
  rw [d_Rule_here] at h
  refine rn_go 3 (pc' := 6) (l' := [(0, .ref 10)]) (st' := [.int (40 : Int32), .int (gi V 10 7)]) (S1 := (SH ++ X)) (V1 := V) rfl ?_
  rcases ai_if h with ⟨hc, h⟩ | ⟨hc, h⟩
  · refine rn_brT rfl rfl rfl rfl hc ?_
    refine rn_go 1 (pc' := 24) (l' := [(0, .ref 10)]) (st' := [.int (-1 : Int32)]) (S1 := (SH ++ X)) (V1 := V) rfl ?_
    obtain rfl := Option.some.inj h
    exact rn_ret rfl rfl rfl
  · refine rn_brF rfl rfl rfl rfl hc ?_
    refine rn_go 4 (pc' := 17) (l' := [(0, .ref 10)]) (st' := [.int (gi V 10 7), .ref 1]) (S1 := (SH ++ X)) (V1 := V) rfl ?_
    obtain ⟨q1, hq1, h⟩ := ai_bd h
    refine rn_call rfl rfl rfl rfl rfl rfl (by omega) (t_Text_at (by omega) hq1) ?_
    refine rn_go 1 (pc' := 24) (l' := [(0, .ref 10)]) (st' := [.int q1]) (S1 := (SH ++ X)) (V1 := V) rfl ?_
    obtain rfl := Option.some.inj h
    exact rn_ret rfl rfl rfl
-- RentByTheWheel$Rule.negated(I)Z (10, None)
def d_Rule_negated_45 (T : Int32 → ai_V → Option (Int32 × ai_V))  (x1 : Int32) (x2 : Int32) (V : ai_V) : Option (Int32 × ai_V) :=
  (T x1 V).bind fun q1 => (if x2 = 0 then (if q1.1 = 0 ∨ q1.1 = 1 then some (q1.1, q1.2) else none) else ((d_Rule_emit (2126 : Int32) q1.2).bind fun q2 => (if q1.1 = 0 ∨ q1.1 = 1 then some (q1.1, q2) else none)))
set_option maxRecDepth 20000 in
theorem t_Rule_negated_45 (T : Int32 → ai_V → Option (Int32 × ai_V)) (DT : Nat) (hT : ∀ {X : ai_S} {e : Nat}, DT ≤ e → ∀ (x1 : Int32) (V : ai_V) (r : (Int32 × ai_V)), T x1 V = some r → Rn e 71 0 (lv_args 0 [.ref 10, .int x1]) [] (SH ++ X) V (some (.int r.1)) (SH ++ X) r.2) {X : ai_S} {e : Nat} (hd : DT + 1 ≤ e ∧ 2 ≤ e)  (x1 : Int32) (x2 : Int32) (V : ai_V) (r : (Int32 × ai_V)) (h : d_Rule_negated_45 T  x1 x2 V = some r) : Rn e 72 45 [(0, .ref 10), (1, .int x1), (2, .int x2)] [] (SH ++ X) V (some (.int r.1)) (SH ++ X) r.2 := by
  rw [d_Rule_negated_45] at h
  refine rn_go 2 (pc' := 47) (l' := [(0, .ref 10), (1, .int x1), (2, .int x2)]) (st' := [.int x1, .ref 10]) (S1 := (SH ++ X)) (V1 := V) rfl ?_
  obtain ⟨q1, hq1, h⟩ := ai_bd h
  refine rn_call rfl rfl rfl rfl rfl rfl (by omega) (hT (by omega) x1 V _ hq1) ?_
  refine rn_go 2 (pc' := 52) (l' := [(3, .int q1.1), (0, .ref 10), (1, .int x1), (2, .int x2)]) (st' := [.int x2]) (S1 := (SH ++ X)) (V1 := q1.2) rfl ?_
  rcases ai_if h with ⟨hc, h⟩ | ⟨hc, h⟩
  · refine rn_brT rfl rfl rfl rfl hc ?_
    refine rn_go 1 (pc' := 63) (l' := [(3, .int q1.1), (0, .ref 10), (1, .int x1), (2, .int x2)]) (st' := [.int q1.1]) (S1 := (SH ++ X)) (V1 := q1.2) rfl ?_
    obtain ⟨hg, h⟩ := ai_gd h
    obtain rfl := Option.some.inj h
    exact rg_zret rfl hg
  · refine rn_brF rfl rfl rfl rfl hc ?_
    refine rn_go 2 (pc' := 59) (l' := [(3, .int q1.1), (0, .ref 10), (1, .int x1), (2, .int x2)]) (st' := [.int (2126 : Int32), .ref 10]) (S1 := (SH ++ X)) (V1 := q1.2) rfl ?_
    obtain ⟨q2, hq2, h⟩ := ai_bd h
    refine rn_call rfl rfl rfl rfl rfl rfl (by omega) (t_Rule_emit (by omega) hq2) ?_
    refine rn_go 1 (pc' := 63) (l' := [(3, .int q1.1), (0, .ref 10), (1, .int x1), (2, .int x2)]) (st' := [.int q1.1]) (S1 := (SH ++ X)) (V1 := q2) rfl ?_
    obtain ⟨hg, h⟩ := ai_gd h
    obtain rfl := Option.some.inj h
    exact rg_zret rfl hg
def d_Rule_negated_38 (T : Int32 → ai_V → Option (Int32 × ai_V)) (F4 : Int32 → Int32 → Int32 → ai_V → Option (Int32 × ai_V)) (x1 : Int32) (x3 : Int32) (s0 : Int32) (V : ai_V) : Option (Int32 × ai_V) :=
  F4 x1 s0 (x3 + (1 : Int32)) V
set_option maxRecDepth 20000 in
theorem t_Rule_negated_38 (T : Int32 → ai_V → Option (Int32 × ai_V)) (DT : Nat) (hT : ∀ {X : ai_S} {e : Nat}, DT ≤ e → ∀ (x1 : Int32) (V : ai_V) (r : (Int32 × ai_V)), T x1 V = some r → Rn e 71 0 (lv_args 0 [.ref 10, .int x1]) [] (SH ++ X) V (some (.int r.1)) (SH ++ X) r.2) {X : ai_S} {e : Nat} (hd : DT + 1 ≤ e ∧ 2 ≤ e) (F4 : Int32 → Int32 → Int32 → ai_V → Option (Int32 × ai_V)) (hF4 : ∀ (x1 : Int32) (x2 : Int32) (x3 : Int32) (V : ai_V) (r : (Int32 × ai_V)), F4 x1 x2 x3 V = some r → Rn e 72 4 [(0, .ref 10), (1, .int x1), (2, .int x2), (3, .int x3)] [] (SH ++ X) V (some (.int r.1)) (SH ++ X) r.2) (x1 : Int32) (x3 : Int32) (s0 : Int32) (V : ai_V) (r : (Int32 × ai_V)) (h : d_Rule_negated_38 T F4 x1 x3 s0 V = some r) : Rn e 72 38 [(0, .ref 10), (1, .int x1), (3, .int x3)] [.int s0] (SH ++ X) V (some (.int r.1)) (SH ++ X) r.2 := by
  rw [d_Rule_negated_38] at h
  refine rn_go 3 (pc' := 4) (l' := [(3, .int (x3 + (1 : Int32))), (2, .int s0), (0, .ref 10), (1, .int x1)]) (st' := []) (S1 := (SH ++ X)) (V1 := V) rfl ?_
  exact rn_sub [2, 3, 1, 0] rfl rfl (hF4 x1 s0 (x3 + (1 : Int32)) V _ h)
def d_Rule_negated_4 (T : Int32 → ai_V → Option (Int32 × ai_V))  : Nat → Int32 → Int32 → Int32 → ai_V → Option (Int32 × ai_V)
  | 0, _, _, _, _ => none
  | n + 1, x1, x2, x3, V => if (40 : Int32) ≤ x3 then (d_Rule_negated_45 T x1 x2 V) else ((d_Rule_here  V).bind fun q3 => (if ¬ q3 = (45 : Int32) then (d_Rule_negated_45 T x1 x2 V) else (if ¬ x2 = 0 then (d_Rule_negated_38 T (d_Rule_negated_4 T n) x1 x3 (0 : Int32) (si V 10 7 ((gi V 10 7) + (1 : Int32)))) else (d_Rule_negated_38 T (d_Rule_negated_4 T n) x1 x3 (1 : Int32) (si V 10 7 ((gi V 10 7) + (1 : Int32)))))))
set_option maxRecDepth 20000 in
theorem t_Rule_negated_4 (T : Int32 → ai_V → Option (Int32 × ai_V)) (DT : Nat) (hT : ∀ {X : ai_S} {e : Nat}, DT ≤ e → ∀ (x1 : Int32) (V : ai_V) (r : (Int32 × ai_V)), T x1 V = some r → Rn e 71 0 (lv_args 0 [.ref 10, .int x1]) [] (SH ++ X) V (some (.int r.1)) (SH ++ X) r.2) {X : ai_S} {e : Nat} (hd : DT + 1 ≤ e ∧ 2 ≤ e)  : ∀ (n : Nat) (x1 : Int32) (x2 : Int32) (x3 : Int32) (V : ai_V) (r : (Int32 × ai_V)), d_Rule_negated_4 T  n x1 x2 x3 V = some r → Rn e 72 4 [(0, .ref 10), (1, .int x1), (2, .int x2), (3, .int x3)] [] (SH ++ X) V (some (.int r.1)) (SH ++ X) r.2 := by
  intro n
  induction n with
  | zero =>
    intro x1 x2 x3 V r h
    cases h
  | succ n ih =>
    intro x1 x2 x3 V r h
    rw [d_Rule_negated_4] at h
    refine rn_go 2 (pc' := 7) (l' := [(0, .ref 10), (1, .int x1), (2, .int x2), (3, .int x3)]) (st' := [.int (40 : Int32), .int x3]) (S1 := (SH ++ X)) (V1 := V) rfl ?_
    rcases ai_if h with ⟨hc, h⟩ | ⟨hc, h⟩
    · refine rn_brT rfl rfl rfl rfl hc ?_
      exact rn_sub [0, 1, 2] rfl rfl (t_Rule_negated_45 T DT hT (X := X) hd x1 x2 V _ h)
    · refine rn_brF rfl rfl rfl rfl hc ?_
      refine rn_go 1 (pc' := 11) (l' := [(0, .ref 10), (1, .int x1), (2, .int x2), (3, .int x3)]) (st' := [.ref 10]) (S1 := (SH ++ X)) (V1 := V) rfl ?_
      obtain ⟨q3, hq3, h⟩ := ai_bd h
      refine rn_call rfl rfl rfl rfl rfl rfl (by omega) (t_Rule_here (by omega) hq3) ?_
      refine rn_go 1 (pc' := 16) (l' := [(0, .ref 10), (1, .int x1), (2, .int x2), (3, .int x3)]) (st' := [.int (45 : Int32), .int q3]) (S1 := (SH ++ X)) (V1 := V) rfl ?_
      rcases ai_if h with ⟨hc, h⟩ | ⟨hc, h⟩
      · refine rn_brT rfl rfl rfl rfl hc ?_
        exact rn_sub [0, 1, 2] rfl rfl (t_Rule_negated_45 T DT hT (X := X) hd x1 x2 V _ h)
      · refine rn_brF rfl rfl rfl rfl hc ?_
        refine rn_go 7 (pc' := 30) (l' := [(0, .ref 10), (1, .int x1), (2, .int x2), (3, .int x3)]) (st' := [.int x2]) (S1 := (SH ++ X)) (V1 := (si V 10 7 ((gi V 10 7) + (1 : Int32)))) rfl ?_
        rcases ai_if h with ⟨hc, h⟩ | ⟨hc, h⟩
        · refine rn_brT rfl rfl rfl rfl hc ?_
          refine rn_go 1 (pc' := 38) (l' := [(0, .ref 10), (1, .int x1), (2, .int x2), (3, .int x3)]) (st' := [.int (0 : Int32)]) (S1 := (SH ++ X)) (V1 := (si V 10 7 ((gi V 10 7) + (1 : Int32)))) rfl ?_
          exact rn_sub [0, 1, 3] rfl rfl (t_Rule_negated_38 T DT hT (X := X) hd (d_Rule_negated_4 T n) (ih) x1 x3 (0 : Int32) (si V 10 7 ((gi V 10 7) + (1 : Int32))) _ h)
        · refine rn_brF rfl rfl rfl rfl hc ?_
          refine rn_go 2 (pc' := 38) (l' := [(0, .ref 10), (1, .int x1), (2, .int x2), (3, .int x3)]) (st' := [.int (1 : Int32)]) (S1 := (SH ++ X)) (V1 := (si V 10 7 ((gi V 10 7) + (1 : Int32)))) rfl ?_
          exact rn_sub [0, 1, 3] rfl rfl (t_Rule_negated_38 T DT hT (X := X) hd (d_Rule_negated_4 T n) (ih) x1 x3 (1 : Int32) (si V 10 7 ((gi V 10 7) + (1 : Int32))) _ h)
def d_Rule_negated_B (T : Int32 → ai_V → Option (Int32 × ai_V)) (x1 : Int32) (V : ai_V) : Option (Int32 × ai_V) :=
  d_Rule_negated_4 T ai_N x1 (0 : Int32) (0 : Int32) V
set_option maxRecDepth 20000 in
theorem t_Rule_negated_B (T : Int32 → ai_V → Option (Int32 × ai_V)) (DT : Nat) (hT : ∀ {X : ai_S} {e : Nat}, DT ≤ e → ∀ (x1 : Int32) (V : ai_V) (r : (Int32 × ai_V)), T x1 V = some r → Rn e 71 0 (lv_args 0 [.ref 10, .int x1]) [] (SH ++ X) V (some (.int r.1)) (SH ++ X) r.2) {X : ai_S} {e : Nat} (hd : DT + 1 ≤ e ∧ 2 ≤ e) {x1 : Int32} {V : ai_V} {r : (Int32 × ai_V)} (h : d_Rule_negated_B T x1 V = some r) : Rn e 72 0 (lv_args 0 [.ref 10, .int x1]) [] (SH ++ X) V (some (.int r.1)) (SH ++ X) r.2 := by
  rw [d_Rule_negated_B] at h
  refine rn_go 4 (pc' := 4) (l' := [(3, .int (0 : Int32)), (2, .int (0 : Int32)), (0, .ref 10), (1, .int x1)]) (st' := []) (S1 := (SH ++ X)) (V1 := V) rfl ?_
  exact rn_sub [2, 3, 1, 0] rfl rfl (t_Rule_negated_4 T DT hT (X := X) hd ai_N x1 (0 : Int32) (0 : Int32) V _ h)
-- RentByTheWheel$Rule.product(I)Z (10, None)
def d_Rule_product_36 (T : Int32 → ai_V → Option (Int32 × ai_V)) (F8 : Int32 → Int32 → Int32 → ai_V → Option (Int32 × ai_V)) (x1 : Int32) (x3 : Int32) (V : ai_V) : Option (Int32 × ai_V) :=
  (d_Rule_here  V).bind fun q1 => ((d_Rule_negated_B T x1 (si V 10 7 ((gi V 10 7) + (1 : Int32)))).bind fun q2 => ((d_Rule_emit ((2000 : Int32) + q1) q2.2).bind fun q3 => (F8 x1 q2.1 (x3 + (1 : Int32)) q3)))
set_option maxRecDepth 20000 in
theorem t_Rule_product_36 (T : Int32 → ai_V → Option (Int32 × ai_V)) (DT : Nat) (hT : ∀ {X : ai_S} {e : Nat}, DT ≤ e → ∀ (x1 : Int32) (V : ai_V) (r : (Int32 × ai_V)), T x1 V = some r → Rn e 71 0 (lv_args 0 [.ref 10, .int x1]) [] (SH ++ X) V (some (.int r.1)) (SH ++ X) r.2) {X : ai_S} {e : Nat} (hd : DT + 2 ≤ e ∧ 3 ≤ e) (F8 : Int32 → Int32 → Int32 → ai_V → Option (Int32 × ai_V)) (hF8 : ∀ (x1 : Int32) (x2 : Int32) (x3 : Int32) (V : ai_V) (r : (Int32 × ai_V)), F8 x1 x2 x3 V = some r → Rn e 73 8 [(0, .ref 10), (1, .int x1), (2, .int x2), (3, .int x3)] [] (SH ++ X) V (some (.int r.1)) (SH ++ X) r.2) (x1 : Int32) (x3 : Int32) (V : ai_V) (r : (Int32 × ai_V)) (h : d_Rule_product_36 T F8 x1 x3 V = some r) : Rn e 73 36 [(0, .ref 10), (1, .int x1), (3, .int x3)] [] (SH ++ X) V (some (.int r.1)) (SH ++ X) r.2 := by
  rw [d_Rule_product_36] at h
  refine rn_go 1 (pc' := 37) (l' := [(0, .ref 10), (1, .int x1), (3, .int x3)]) (st' := [.ref 10]) (S1 := (SH ++ X)) (V1 := V) rfl ?_
  obtain ⟨q1, hq1, h⟩ := ai_bd h
  refine rn_call rfl rfl rfl rfl rfl rfl (by omega) (t_Rule_here (by omega) hq1) ?_
  refine rn_go 9 (pc' := 54) (l' := [(4, .int q1), (0, .ref 10), (1, .int x1), (3, .int x3)]) (st' := [.int x1, .ref 10]) (S1 := (SH ++ X)) (V1 := (si V 10 7 ((gi V 10 7) + (1 : Int32)))) rfl ?_
  obtain ⟨q2, hq2, h⟩ := ai_bd h
  refine rn_call rfl rfl rfl rfl rfl rfl (by omega) (t_Rule_negated_B T DT hT (by omega) hq2) ?_
  refine rn_go 5 (pc' := 65) (l' := [(2, .int q2.1), (4, .int q1), (0, .ref 10), (1, .int x1), (3, .int x3)]) (st' := [.int ((2000 : Int32) + q1), .ref 10]) (S1 := (SH ++ X)) (V1 := q2.2) rfl ?_
  obtain ⟨q3, hq3, h⟩ := ai_bd h
  refine rn_call rfl rfl rfl rfl rfl rfl (by omega) (t_Rule_emit (by omega) hq3) ?_
  refine rn_go 2 (pc' := 8) (l' := [(3, .int (x3 + (1 : Int32))), (2, .int q2.1), (4, .int q1), (0, .ref 10), (1, .int x1)]) (st' := []) (S1 := (SH ++ X)) (V1 := q3) rfl ?_
  exact rn_sub [3, 4, 1, 0] rfl rfl (hF8 x1 q2.1 (x3 + (1 : Int32)) q3 _ h)
def d_Rule_product_8 (T : Int32 → ai_V → Option (Int32 × ai_V))  : Nat → Int32 → Int32 → Int32 → ai_V → Option (Int32 × ai_V)
  | 0, _, _, _, _ => none
  | n + 1, x1, x2, x3, V => if (40 : Int32) ≤ x3 then (if x2 = 0 ∨ x2 = 1 then some (x2, V) else none) else (if x2 = 0 then (if x2 = 0 ∨ x2 = 1 then some (x2, V) else none) else ((d_Rule_here  V).bind fun q4 => (if q4 = (42 : Int32) then (d_Rule_product_36 T (d_Rule_product_8 T n) x1 x3 V) else ((d_Rule_here  V).bind fun q5 => (if ¬ q5 = (47 : Int32) then (if x2 = 0 ∨ x2 = 1 then some (x2, V) else none) else (d_Rule_product_36 T (d_Rule_product_8 T n) x1 x3 V))))))
set_option maxRecDepth 20000 in
theorem t_Rule_product_8 (T : Int32 → ai_V → Option (Int32 × ai_V)) (DT : Nat) (hT : ∀ {X : ai_S} {e : Nat}, DT ≤ e → ∀ (x1 : Int32) (V : ai_V) (r : (Int32 × ai_V)), T x1 V = some r → Rn e 71 0 (lv_args 0 [.ref 10, .int x1]) [] (SH ++ X) V (some (.int r.1)) (SH ++ X) r.2) {X : ai_S} {e : Nat} (hd : DT + 2 ≤ e ∧ 3 ≤ e)  : ∀ (n : Nat) (x1 : Int32) (x2 : Int32) (x3 : Int32) (V : ai_V) (r : (Int32 × ai_V)), d_Rule_product_8 T  n x1 x2 x3 V = some r → Rn e 73 8 [(0, .ref 10), (1, .int x1), (2, .int x2), (3, .int x3)] [] (SH ++ X) V (some (.int r.1)) (SH ++ X) r.2 := by
  intro n
  induction n with
  | zero =>
    intro x1 x2 x3 V r h
    cases h
  | succ n ih =>
    intro x1 x2 x3 V r h
    rw [d_Rule_product_8] at h
    refine rn_go 2 (pc' := 11) (l' := [(0, .ref 10), (1, .int x1), (2, .int x2), (3, .int x3)]) (st' := [.int (40 : Int32), .int x3]) (S1 := (SH ++ X)) (V1 := V) rfl ?_
    rcases ai_if h with ⟨hc, h⟩ | ⟨hc, h⟩
    · refine rn_brT rfl rfl rfl rfl hc ?_
      refine rn_go 1 (pc' := 75) (l' := [(0, .ref 10), (1, .int x1), (2, .int x2), (3, .int x3)]) (st' := [.int x2]) (S1 := (SH ++ X)) (V1 := V) rfl ?_
      obtain ⟨hg, h⟩ := ai_gd h
      obtain rfl := Option.some.inj h
      exact rg_zret rfl hg
    · refine rn_brF rfl rfl rfl rfl hc ?_
      refine rn_go 1 (pc' := 15) (l' := [(0, .ref 10), (1, .int x1), (2, .int x2), (3, .int x3)]) (st' := [.int x2]) (S1 := (SH ++ X)) (V1 := V) rfl ?_
      rcases ai_if h with ⟨hc, h⟩ | ⟨hc, h⟩
      · refine rn_brT rfl rfl rfl rfl hc ?_
        refine rn_go 1 (pc' := 75) (l' := [(0, .ref 10), (1, .int x1), (2, .int x2), (3, .int x3)]) (st' := [.int x2]) (S1 := (SH ++ X)) (V1 := V) rfl ?_
        obtain ⟨hg, h⟩ := ai_gd h
        obtain rfl := Option.some.inj h
        exact rg_zret rfl hg
      · refine rn_brF rfl rfl rfl rfl hc ?_
        refine rn_go 1 (pc' := 19) (l' := [(0, .ref 10), (1, .int x1), (2, .int x2), (3, .int x3)]) (st' := [.ref 10]) (S1 := (SH ++ X)) (V1 := V) rfl ?_
        obtain ⟨q4, hq4, h⟩ := ai_bd h
        refine rn_call rfl rfl rfl rfl rfl rfl (by omega) (t_Rule_here (by omega) hq4) ?_
        refine rn_go 1 (pc' := 24) (l' := [(0, .ref 10), (1, .int x1), (2, .int x2), (3, .int x3)]) (st' := [.int (42 : Int32), .int q4]) (S1 := (SH ++ X)) (V1 := V) rfl ?_
        rcases ai_if h with ⟨hc, h⟩ | ⟨hc, h⟩
        · refine rn_brT rfl rfl rfl rfl hc ?_
          exact rn_sub [0, 1, 3] rfl rfl (t_Rule_product_36 T DT hT (X := X) hd (d_Rule_product_8 T n) (ih) x1 x3 V _ h)
        · refine rn_brF rfl rfl rfl rfl hc ?_
          refine rn_go 1 (pc' := 28) (l' := [(0, .ref 10), (1, .int x1), (2, .int x2), (3, .int x3)]) (st' := [.ref 10]) (S1 := (SH ++ X)) (V1 := V) rfl ?_
          obtain ⟨q5, hq5, h⟩ := ai_bd h
          refine rn_call rfl rfl rfl rfl rfl rfl (by omega) (t_Rule_here (by omega) hq5) ?_
          refine rn_go 1 (pc' := 33) (l' := [(0, .ref 10), (1, .int x1), (2, .int x2), (3, .int x3)]) (st' := [.int (47 : Int32), .int q5]) (S1 := (SH ++ X)) (V1 := V) rfl ?_
          rcases ai_if h with ⟨hc, h⟩ | ⟨hc, h⟩
          · refine rn_brT rfl rfl rfl rfl hc ?_
            refine rn_go 1 (pc' := 75) (l' := [(0, .ref 10), (1, .int x1), (2, .int x2), (3, .int x3)]) (st' := [.int x2]) (S1 := (SH ++ X)) (V1 := V) rfl ?_
            obtain ⟨hg, h⟩ := ai_gd h
            obtain rfl := Option.some.inj h
            exact rg_zret rfl hg
          · refine rn_brF rfl rfl rfl rfl hc ?_
            exact rn_sub [0, 1, 3] rfl rfl (t_Rule_product_36 T DT hT (X := X) hd (d_Rule_product_8 T n) (ih) x1 x3 V _ h)
def d_Rule_product_B (T : Int32 → ai_V → Option (Int32 × ai_V)) (x1 : Int32) (V : ai_V) : Option (Int32 × ai_V) :=
  (d_Rule_negated_B T x1 V).bind fun q6 => (d_Rule_product_8 T ai_N x1 q6.1 (0 : Int32) q6.2)
set_option maxRecDepth 20000 in
theorem t_Rule_product_B (T : Int32 → ai_V → Option (Int32 × ai_V)) (DT : Nat) (hT : ∀ {X : ai_S} {e : Nat}, DT ≤ e → ∀ (x1 : Int32) (V : ai_V) (r : (Int32 × ai_V)), T x1 V = some r → Rn e 71 0 (lv_args 0 [.ref 10, .int x1]) [] (SH ++ X) V (some (.int r.1)) (SH ++ X) r.2) {X : ai_S} {e : Nat} (hd : DT + 2 ≤ e ∧ 3 ≤ e) {x1 : Int32} {V : ai_V} {r : (Int32 × ai_V)} (h : d_Rule_product_B T x1 V = some r) : Rn e 73 0 (lv_args 0 [.ref 10, .int x1]) [] (SH ++ X) V (some (.int r.1)) (SH ++ X) r.2 := by
  rw [d_Rule_product_B] at h
  refine rn_go 2 (pc' := 2) (l' := [(0, .ref 10), (1, .int x1)]) (st' := [.int x1, .ref 10]) (S1 := (SH ++ X)) (V1 := V) rfl ?_
  obtain ⟨q6, hq6, h⟩ := ai_bd h
  refine rn_call rfl rfl rfl rfl rfl rfl (by omega) (t_Rule_negated_B T DT hT (by omega) hq6) ?_
  refine rn_go 3 (pc' := 8) (l' := [(3, .int (0 : Int32)), (2, .int q6.1), (0, .ref 10), (1, .int x1)]) (st' := []) (S1 := (SH ++ X)) (V1 := q6.2) rfl ?_
  exact rn_sub [2, 3, 1, 0] rfl rfl (t_Rule_product_8 T DT hT (X := X) hd ai_N x1 q6.1 (0 : Int32) q6.2 _ h)
-- RentByTheWheel$Rule.sum(I)Z (10, None)
def d_Rule_sum_36 (T : Int32 → ai_V → Option (Int32 × ai_V)) (F8 : Int32 → Int32 → Int32 → ai_V → Option (Int32 × ai_V)) (x1 : Int32) (x3 : Int32) (V : ai_V) : Option (Int32 × ai_V) :=
  (d_Rule_here  V).bind fun q1 => ((d_Rule_product_B T x1 (si V 10 7 ((gi V 10 7) + (1 : Int32)))).bind fun q2 => ((d_Rule_emit ((2000 : Int32) + q1) q2.2).bind fun q3 => (F8 x1 q2.1 (x3 + (1 : Int32)) q3)))
set_option maxRecDepth 20000 in
theorem t_Rule_sum_36 (T : Int32 → ai_V → Option (Int32 × ai_V)) (DT : Nat) (hT : ∀ {X : ai_S} {e : Nat}, DT ≤ e → ∀ (x1 : Int32) (V : ai_V) (r : (Int32 × ai_V)), T x1 V = some r → Rn e 71 0 (lv_args 0 [.ref 10, .int x1]) [] (SH ++ X) V (some (.int r.1)) (SH ++ X) r.2) {X : ai_S} {e : Nat} (hd : DT + 3 ≤ e ∧ 4 ≤ e) (F8 : Int32 → Int32 → Int32 → ai_V → Option (Int32 × ai_V)) (hF8 : ∀ (x1 : Int32) (x2 : Int32) (x3 : Int32) (V : ai_V) (r : (Int32 × ai_V)), F8 x1 x2 x3 V = some r → Rn e 74 8 [(0, .ref 10), (1, .int x1), (2, .int x2), (3, .int x3)] [] (SH ++ X) V (some (.int r.1)) (SH ++ X) r.2) (x1 : Int32) (x3 : Int32) (V : ai_V) (r : (Int32 × ai_V)) (h : d_Rule_sum_36 T F8 x1 x3 V = some r) : Rn e 74 36 [(0, .ref 10), (1, .int x1), (3, .int x3)] [] (SH ++ X) V (some (.int r.1)) (SH ++ X) r.2 := by
  rw [d_Rule_sum_36] at h
  refine rn_go 1 (pc' := 37) (l' := [(0, .ref 10), (1, .int x1), (3, .int x3)]) (st' := [.ref 10]) (S1 := (SH ++ X)) (V1 := V) rfl ?_
  obtain ⟨q1, hq1, h⟩ := ai_bd h
  refine rn_call rfl rfl rfl rfl rfl rfl (by omega) (t_Rule_here (by omega) hq1) ?_
  refine rn_go 9 (pc' := 54) (l' := [(4, .int q1), (0, .ref 10), (1, .int x1), (3, .int x3)]) (st' := [.int x1, .ref 10]) (S1 := (SH ++ X)) (V1 := (si V 10 7 ((gi V 10 7) + (1 : Int32)))) rfl ?_
  obtain ⟨q2, hq2, h⟩ := ai_bd h
  refine rn_call rfl rfl rfl rfl rfl rfl (by omega) (t_Rule_product_B T DT hT (by omega) hq2) ?_
  refine rn_go 5 (pc' := 65) (l' := [(2, .int q2.1), (4, .int q1), (0, .ref 10), (1, .int x1), (3, .int x3)]) (st' := [.int ((2000 : Int32) + q1), .ref 10]) (S1 := (SH ++ X)) (V1 := q2.2) rfl ?_
  obtain ⟨q3, hq3, h⟩ := ai_bd h
  refine rn_call rfl rfl rfl rfl rfl rfl (by omega) (t_Rule_emit (by omega) hq3) ?_
  refine rn_go 2 (pc' := 8) (l' := [(3, .int (x3 + (1 : Int32))), (2, .int q2.1), (4, .int q1), (0, .ref 10), (1, .int x1)]) (st' := []) (S1 := (SH ++ X)) (V1 := q3) rfl ?_
  exact rn_sub [3, 4, 1, 0] rfl rfl (hF8 x1 q2.1 (x3 + (1 : Int32)) q3 _ h)
def d_Rule_sum_8 (T : Int32 → ai_V → Option (Int32 × ai_V))  : Nat → Int32 → Int32 → Int32 → ai_V → Option (Int32 × ai_V)
  | 0, _, _, _, _ => none
  | n + 1, x1, x2, x3, V => if (40 : Int32) ≤ x3 then (if x2 = 0 ∨ x2 = 1 then some (x2, V) else none) else (if x2 = 0 then (if x2 = 0 ∨ x2 = 1 then some (x2, V) else none) else ((d_Rule_here  V).bind fun q4 => (if q4 = (43 : Int32) then (d_Rule_sum_36 T (d_Rule_sum_8 T n) x1 x3 V) else ((d_Rule_here  V).bind fun q5 => (if ¬ q5 = (45 : Int32) then (if x2 = 0 ∨ x2 = 1 then some (x2, V) else none) else (d_Rule_sum_36 T (d_Rule_sum_8 T n) x1 x3 V))))))
set_option maxRecDepth 20000 in
theorem t_Rule_sum_8 (T : Int32 → ai_V → Option (Int32 × ai_V)) (DT : Nat) (hT : ∀ {X : ai_S} {e : Nat}, DT ≤ e → ∀ (x1 : Int32) (V : ai_V) (r : (Int32 × ai_V)), T x1 V = some r → Rn e 71 0 (lv_args 0 [.ref 10, .int x1]) [] (SH ++ X) V (some (.int r.1)) (SH ++ X) r.2) {X : ai_S} {e : Nat} (hd : DT + 3 ≤ e ∧ 4 ≤ e)  : ∀ (n : Nat) (x1 : Int32) (x2 : Int32) (x3 : Int32) (V : ai_V) (r : (Int32 × ai_V)), d_Rule_sum_8 T  n x1 x2 x3 V = some r → Rn e 74 8 [(0, .ref 10), (1, .int x1), (2, .int x2), (3, .int x3)] [] (SH ++ X) V (some (.int r.1)) (SH ++ X) r.2 := by
  intro n
  induction n with
  | zero =>
    intro x1 x2 x3 V r h
    cases h
  | succ n ih =>
    intro x1 x2 x3 V r h
    rw [d_Rule_sum_8] at h
    refine rn_go 2 (pc' := 11) (l' := [(0, .ref 10), (1, .int x1), (2, .int x2), (3, .int x3)]) (st' := [.int (40 : Int32), .int x3]) (S1 := (SH ++ X)) (V1 := V) rfl ?_
    rcases ai_if h with ⟨hc, h⟩ | ⟨hc, h⟩
    · refine rn_brT rfl rfl rfl rfl hc ?_
      refine rn_go 1 (pc' := 75) (l' := [(0, .ref 10), (1, .int x1), (2, .int x2), (3, .int x3)]) (st' := [.int x2]) (S1 := (SH ++ X)) (V1 := V) rfl ?_
      obtain ⟨hg, h⟩ := ai_gd h
      obtain rfl := Option.some.inj h
      exact rg_zret rfl hg
    · refine rn_brF rfl rfl rfl rfl hc ?_
      refine rn_go 1 (pc' := 15) (l' := [(0, .ref 10), (1, .int x1), (2, .int x2), (3, .int x3)]) (st' := [.int x2]) (S1 := (SH ++ X)) (V1 := V) rfl ?_
      rcases ai_if h with ⟨hc, h⟩ | ⟨hc, h⟩
      · refine rn_brT rfl rfl rfl rfl hc ?_
        refine rn_go 1 (pc' := 75) (l' := [(0, .ref 10), (1, .int x1), (2, .int x2), (3, .int x3)]) (st' := [.int x2]) (S1 := (SH ++ X)) (V1 := V) rfl ?_
        obtain ⟨hg, h⟩ := ai_gd h
        obtain rfl := Option.some.inj h
        exact rg_zret rfl hg
      · refine rn_brF rfl rfl rfl rfl hc ?_
        refine rn_go 1 (pc' := 19) (l' := [(0, .ref 10), (1, .int x1), (2, .int x2), (3, .int x3)]) (st' := [.ref 10]) (S1 := (SH ++ X)) (V1 := V) rfl ?_
        obtain ⟨q4, hq4, h⟩ := ai_bd h
        refine rn_call rfl rfl rfl rfl rfl rfl (by omega) (t_Rule_here (by omega) hq4) ?_
        refine rn_go 1 (pc' := 24) (l' := [(0, .ref 10), (1, .int x1), (2, .int x2), (3, .int x3)]) (st' := [.int (43 : Int32), .int q4]) (S1 := (SH ++ X)) (V1 := V) rfl ?_
        rcases ai_if h with ⟨hc, h⟩ | ⟨hc, h⟩
        · refine rn_brT rfl rfl rfl rfl hc ?_
          exact rn_sub [0, 1, 3] rfl rfl (t_Rule_sum_36 T DT hT (X := X) hd (d_Rule_sum_8 T n) (ih) x1 x3 V _ h)
        · refine rn_brF rfl rfl rfl rfl hc ?_
          refine rn_go 1 (pc' := 28) (l' := [(0, .ref 10), (1, .int x1), (2, .int x2), (3, .int x3)]) (st' := [.ref 10]) (S1 := (SH ++ X)) (V1 := V) rfl ?_
          obtain ⟨q5, hq5, h⟩ := ai_bd h
          refine rn_call rfl rfl rfl rfl rfl rfl (by omega) (t_Rule_here (by omega) hq5) ?_
          refine rn_go 1 (pc' := 33) (l' := [(0, .ref 10), (1, .int x1), (2, .int x2), (3, .int x3)]) (st' := [.int (45 : Int32), .int q5]) (S1 := (SH ++ X)) (V1 := V) rfl ?_
          rcases ai_if h with ⟨hc, h⟩ | ⟨hc, h⟩
          · refine rn_brT rfl rfl rfl rfl hc ?_
            refine rn_go 1 (pc' := 75) (l' := [(0, .ref 10), (1, .int x1), (2, .int x2), (3, .int x3)]) (st' := [.int x2]) (S1 := (SH ++ X)) (V1 := V) rfl ?_
            obtain ⟨hg, h⟩ := ai_gd h
            obtain rfl := Option.some.inj h
            exact rg_zret rfl hg
          · refine rn_brF rfl rfl rfl rfl hc ?_
            exact rn_sub [0, 1, 3] rfl rfl (t_Rule_sum_36 T DT hT (X := X) hd (d_Rule_sum_8 T n) (ih) x1 x3 V _ h)
def d_Rule_sum_B (T : Int32 → ai_V → Option (Int32 × ai_V)) (x1 : Int32) (V : ai_V) : Option (Int32 × ai_V) :=
  (d_Rule_product_B T x1 V).bind fun q6 => (d_Rule_sum_8 T ai_N x1 q6.1 (0 : Int32) q6.2)
set_option maxRecDepth 20000 in
theorem t_Rule_sum_B (T : Int32 → ai_V → Option (Int32 × ai_V)) (DT : Nat) (hT : ∀ {X : ai_S} {e : Nat}, DT ≤ e → ∀ (x1 : Int32) (V : ai_V) (r : (Int32 × ai_V)), T x1 V = some r → Rn e 71 0 (lv_args 0 [.ref 10, .int x1]) [] (SH ++ X) V (some (.int r.1)) (SH ++ X) r.2) {X : ai_S} {e : Nat} (hd : DT + 3 ≤ e ∧ 4 ≤ e) {x1 : Int32} {V : ai_V} {r : (Int32 × ai_V)} (h : d_Rule_sum_B T x1 V = some r) : Rn e 74 0 (lv_args 0 [.ref 10, .int x1]) [] (SH ++ X) V (some (.int r.1)) (SH ++ X) r.2 := by
  rw [d_Rule_sum_B] at h
  refine rn_go 2 (pc' := 2) (l' := [(0, .ref 10), (1, .int x1)]) (st' := [.int x1, .ref 10]) (S1 := (SH ++ X)) (V1 := V) rfl ?_
  obtain ⟨q6, hq6, h⟩ := ai_bd h
  refine rn_call rfl rfl rfl rfl rfl rfl (by omega) (t_Rule_product_B T DT hT (by omega) hq6) ?_
  refine rn_go 3 (pc' := 8) (l' := [(3, .int (0 : Int32)), (2, .int q6.1), (0, .ref 10), (1, .int x1)]) (st' := []) (S1 := (SH ++ X)) (V1 := q6.2) rfl ?_
  exact rn_sub [2, 3, 1, 0] rfl rfl (t_Rule_sum_8 T DT hT (X := X) hd ai_N x1 q6.1 (0 : Int32) q6.2 _ h)
-- RentByTheWheel$Rule.expression(I)Z (10, None)
def d_Rule_expression_35 (T : Int32 → ai_V → Option (Int32 × ai_V))  (x1 : Int32) (x2 : Int32) (V : ai_V) : Option (Int32 × ai_V) :=
  (d_Rule_sum_B T x1 (si V 10 7 ((gi V 10 7) + (1 : Int32)))).bind fun q1 => (if ¬ q1.1 = 0 then ((d_Rule_emit ((2000 : Int32) + x2) q1.2).bind fun q2 => (some ((1 : Int32), q2))) else (some ((0 : Int32), q1.2)))
set_option maxRecDepth 20000 in
theorem t_Rule_expression_35 (T : Int32 → ai_V → Option (Int32 × ai_V)) (DT : Nat) (hT : ∀ {X : ai_S} {e : Nat}, DT ≤ e → ∀ (x1 : Int32) (V : ai_V) (r : (Int32 × ai_V)), T x1 V = some r → Rn e 71 0 (lv_args 0 [.ref 10, .int x1]) [] (SH ++ X) V (some (.int r.1)) (SH ++ X) r.2) {X : ai_S} {e : Nat} (hd : DT + 4 ≤ e ∧ 5 ≤ e)  (x1 : Int32) (x2 : Int32) (V : ai_V) (r : (Int32 × ai_V)) (h : d_Rule_expression_35 T  x1 x2 V = some r) : Rn e 75 35 [(0, .ref 10), (1, .int x1), (2, .int x2)] [] (SH ++ X) V (some (.int r.1)) (SH ++ X) r.2 := by
  rw [d_Rule_expression_35] at h
  refine rn_go 8 (pc' := 47) (l' := [(0, .ref 10), (1, .int x1), (2, .int x2)]) (st' := [.int x1, .ref 10]) (S1 := (SH ++ X)) (V1 := (si V 10 7 ((gi V 10 7) + (1 : Int32)))) rfl ?_
  obtain ⟨q1, hq1, h⟩ := ai_bd h
  refine rn_call rfl rfl rfl rfl rfl rfl (by omega) (t_Rule_sum_B T DT hT (by omega) hq1) ?_
  rcases ai_if h with ⟨hc, h⟩ | ⟨hc, h⟩
  · refine rn_brT rfl rfl rfl rfl hc ?_
    refine rn_go 4 (pc' := 61) (l' := [(0, .ref 10), (1, .int x1), (2, .int x2)]) (st' := [.int ((2000 : Int32) + x2), .ref 10]) (S1 := (SH ++ X)) (V1 := q1.2) rfl ?_
    obtain ⟨q2, hq2, h⟩ := ai_bd h
    refine rn_call rfl rfl rfl rfl rfl rfl (by omega) (t_Rule_emit (by omega) hq2) ?_
    refine rn_go 1 (pc' := 65) (l' := [(0, .ref 10), (1, .int x1), (2, .int x2)]) (st' := [.int (1 : Int32)]) (S1 := (SH ++ X)) (V1 := q2) rfl ?_
    obtain rfl := Option.some.inj h
    exact rg_zret rfl (by decide)
  · refine rn_brF rfl rfl rfl rfl hc ?_
    refine rn_go 1 (pc' := 54) (l' := [(0, .ref 10), (1, .int x1), (2, .int x2)]) (st' := [.int (0 : Int32)]) (S1 := (SH ++ X)) (V1 := q1.2) rfl ?_
    obtain rfl := Option.some.inj h
    exact rg_zret rfl (by decide)
def d_Rule_expression_B (T : Int32 → ai_V → Option (Int32 × ai_V)) (x1 : Int32) (V : ai_V) : Option (Int32 × ai_V) :=
  (d_Rule_sum_B T x1 V).bind fun q3 => (if ¬ q3.1 = 0 then ((d_Rule_here  q3.2).bind fun q4 => (if q4 = (60 : Int32) then (d_Rule_expression_35 T x1 q4 q3.2) else (if q4 = (62 : Int32) then (d_Rule_expression_35 T x1 q4 q3.2) else (if q4 = (61 : Int32) then (d_Rule_expression_35 T x1 q4 q3.2) else (some ((1 : Int32), q3.2)))))) else (some ((0 : Int32), q3.2)))
set_option maxRecDepth 20000 in
theorem t_Rule_expression_B (T : Int32 → ai_V → Option (Int32 × ai_V)) (DT : Nat) (hT : ∀ {X : ai_S} {e : Nat}, DT ≤ e → ∀ (x1 : Int32) (V : ai_V) (r : (Int32 × ai_V)), T x1 V = some r → Rn e 71 0 (lv_args 0 [.ref 10, .int x1]) [] (SH ++ X) V (some (.int r.1)) (SH ++ X) r.2) {X : ai_S} {e : Nat} (hd : DT + 4 ≤ e ∧ 5 ≤ e) {x1 : Int32} {V : ai_V} {r : (Int32 × ai_V)} (h : d_Rule_expression_B T x1 V = some r) : Rn e 75 0 (lv_args 0 [.ref 10, .int x1]) [] (SH ++ X) V (some (.int r.1)) (SH ++ X) r.2 := by
  rw [d_Rule_expression_B] at h
  refine rn_go 2 (pc' := 2) (l' := [(0, .ref 10), (1, .int x1)]) (st' := [.int x1, .ref 10]) (S1 := (SH ++ X)) (V1 := V) rfl ?_
  obtain ⟨q3, hq3, h⟩ := ai_bd h
  refine rn_call rfl rfl rfl rfl rfl rfl (by omega) (t_Rule_sum_B T DT hT (by omega) hq3) ?_
  rcases ai_if h with ⟨hc, h⟩ | ⟨hc, h⟩
  · refine rn_brT rfl rfl rfl rfl hc ?_
    refine rn_go 1 (pc' := 11) (l' := [(0, .ref 10), (1, .int x1)]) (st' := [.ref 10]) (S1 := (SH ++ X)) (V1 := q3.2) rfl ?_
    obtain ⟨q4, hq4, h⟩ := ai_bd h
    refine rn_call rfl rfl rfl rfl rfl rfl (by omega) (t_Rule_here (by omega) hq4) ?_
    refine rn_go 3 (pc' := 18) (l' := [(2, .int q4), (0, .ref 10), (1, .int x1)]) (st' := [.int (60 : Int32), .int q4]) (S1 := (SH ++ X)) (V1 := q3.2) rfl ?_
    rcases ai_if h with ⟨hc, h⟩ | ⟨hc, h⟩
    · refine rn_brT rfl rfl rfl rfl hc ?_
      exact rn_sub [1, 2, 0] rfl rfl (t_Rule_expression_35 T DT hT (X := X) hd x1 q4 q3.2 _ h)
    · refine rn_brF rfl rfl rfl rfl hc ?_
      refine rn_go 2 (pc' := 24) (l' := [(2, .int q4), (0, .ref 10), (1, .int x1)]) (st' := [.int (62 : Int32), .int q4]) (S1 := (SH ++ X)) (V1 := q3.2) rfl ?_
      rcases ai_if h with ⟨hc, h⟩ | ⟨hc, h⟩
      · refine rn_brT rfl rfl rfl rfl hc ?_
        exact rn_sub [1, 2, 0] rfl rfl (t_Rule_expression_35 T DT hT (X := X) hd x1 q4 q3.2 _ h)
      · refine rn_brF rfl rfl rfl rfl hc ?_
        refine rn_go 2 (pc' := 30) (l' := [(2, .int q4), (0, .ref 10), (1, .int x1)]) (st' := [.int (61 : Int32), .int q4]) (S1 := (SH ++ X)) (V1 := q3.2) rfl ?_
        rcases ai_if h with ⟨hc, h⟩ | ⟨hc, h⟩
        · refine rn_brT rfl rfl rfl rfl hc ?_
          exact rn_sub [1, 2, 0] rfl rfl (t_Rule_expression_35 T DT hT (X := X) hd x1 q4 q3.2 _ h)
        · refine rn_brF rfl rfl rfl rfl hc ?_
          refine rn_go 1 (pc' := 34) (l' := [(2, .int q4), (0, .ref 10), (1, .int x1)]) (st' := [.int (1 : Int32)]) (S1 := (SH ++ X)) (V1 := q3.2) rfl ?_
          obtain rfl := Option.some.inj h
          exact rg_zret rfl (by decide)
  · refine rn_brF rfl rfl rfl rfl hc ?_
    refine rn_go 1 (pc' := 9) (l' := [(0, .ref 10), (1, .int x1)]) (st' := [.int (0 : Int32)]) (S1 := (SH ++ X)) (V1 := q3.2) rfl ?_
    obtain rfl := Option.some.inj h
    exact rg_zret rfl (by decide)
-- RentByTheWheel$Rule.number()V (10,)
def d_Rule_number_48  (x1 : Int32) (V : ai_V) : Option ai_V :=
  (d_Rule_emit x1 V).bind fun q1 => (some q1)
set_option maxRecDepth 20000 in
theorem t_Rule_number_48 {X : ai_S} {e : Nat} (hd : 2 ≤ e)  (x1 : Int32) (V : ai_V) (r : ai_V) (h : d_Rule_number_48  x1 V = some r) : Rn e 70 48 [(0, .ref 10), (1, .int x1)] [] (SH ++ X) V none (SH ++ X) r := by
  rw [d_Rule_number_48] at h
  refine rn_go 2 (pc' := 50) (l' := [(0, .ref 10), (1, .int x1)]) (st' := [.int x1, .ref 10]) (S1 := (SH ++ X)) (V1 := V) rfl ?_
  obtain ⟨q1, hq1, h⟩ := ai_bd h
  refine rn_call rfl rfl rfl rfl rfl rfl (by omega) (t_Rule_emit (by omega) hq1) ?_
  obtain rfl := Option.some.inj h
  exact rn_ret rfl rfl rfl
def d_Rule_number_4  : Nat → Int32 → Int32 → ai_V → Option ai_V
  | 0, _, _, _ => none
  | n + 1, x1, x2, V => if (3 : Int32) ≤ x2 then (d_Rule_number_48 x1 V) else ((d_Rule_here  V).bind fun q2 => ((d_Text_isDigit q2 V).bind fun q3 => (if q3 = 0 then (d_Rule_number_48 x1 V) else ((d_Rule_here  V).bind fun q4 => (d_Rule_number_4 n (((x1 * (10 : Int32)) + q4) - (48 : Int32)) (x2 + (1 : Int32)) (si V 10 7 ((gi V 10 7) + (1 : Int32))))))))
set_option maxRecDepth 20000 in
theorem t_Rule_number_4 {X : ai_S} {e : Nat} (hd : 2 ≤ e)  : ∀ (n : Nat) (x1 : Int32) (x2 : Int32) (V : ai_V) (r : ai_V), d_Rule_number_4  n x1 x2 V = some r → Rn e 70 4 [(0, .ref 10), (1, .int x1), (2, .int x2)] [] (SH ++ X) V none (SH ++ X) r := by
  intro n
  induction n with
  | zero =>
    intro x1 x2 V r h
    cases h
  | succ n ih =>
    intro x1 x2 V r h
    rw [d_Rule_number_4] at h
    refine rn_go 2 (pc' := 6) (l' := [(0, .ref 10), (1, .int x1), (2, .int x2)]) (st' := [.int (3 : Int32), .int x2]) (S1 := (SH ++ X)) (V1 := V) rfl ?_
    rcases ai_if h with ⟨hc, h⟩ | ⟨hc, h⟩
    · refine rn_brT rfl rfl rfl rfl hc ?_
      exact rn_sub [0, 1] rfl rfl (t_Rule_number_48 (X := X) hd x1 V _ h)
    · refine rn_brF rfl rfl rfl rfl hc ?_
      refine rn_go 1 (pc' := 10) (l' := [(0, .ref 10), (1, .int x1), (2, .int x2)]) (st' := [.ref 10]) (S1 := (SH ++ X)) (V1 := V) rfl ?_
      obtain ⟨q2, hq2, h⟩ := ai_bd h
      refine rn_call rfl rfl rfl rfl rfl rfl (by omega) (t_Rule_here (by omega) hq2) ?_
      obtain ⟨q3, hq3, h⟩ := ai_bd h
      refine rn_call rfl rfl rfl rfl rfl rfl (by omega) (t_Text_isDigit (by omega) hq3) ?_
      rcases ai_if h with ⟨hc, h⟩ | ⟨hc, h⟩
      · refine rn_brT rfl rfl rfl rfl hc ?_
        exact rn_sub [0, 1] rfl rfl (t_Rule_number_48 (X := X) hd x1 V _ h)
      · refine rn_brF rfl rfl rfl rfl hc ?_
        refine rn_go 4 (pc' := 24) (l' := [(0, .ref 10), (1, .int x1), (2, .int x2)]) (st' := [.ref 10, .int (x1 * (10 : Int32))]) (S1 := (SH ++ X)) (V1 := V) rfl ?_
        obtain ⟨q4, hq4, h⟩ := ai_bd h
        refine rn_call rfl rfl rfl rfl rfl rfl (by omega) (t_Rule_here (by omega) hq4) ?_
        refine rn_go 12 (pc' := 4) (l' := [(2, .int (x2 + (1 : Int32))), (1, .int (((x1 * (10 : Int32)) + q4) - (48 : Int32))), (0, .ref 10)]) (st' := []) (S1 := (SH ++ X)) (V1 := (si V 10 7 ((gi V 10 7) + (1 : Int32)))) rfl ?_
        exact rn_sub [2, 1, 0] rfl rfl (ih (((x1 * (10 : Int32)) + q4) - (48 : Int32)) (x2 + (1 : Int32)) (si V 10 7 ((gi V 10 7) + (1 : Int32))) _ h)
def d_Rule_number  (V : ai_V) : Option ai_V :=
  d_Rule_number_4 ai_N (0 : Int32) (0 : Int32) V
set_option maxRecDepth 20000 in
theorem t_Rule_number {X : ai_S} {e : Nat} (hd : 2 ≤ e)  {V : ai_V} {r : ai_V} (h : d_Rule_number  V = some r) : Rn e 70 0 (lv_args 0 [.ref 10]) [] (SH ++ X) V none (SH ++ X) r := by
  rw [d_Rule_number] at h
  refine rn_go 4 (pc' := 4) (l' := [(2, .int (0 : Int32)), (1, .int (0 : Int32)), (0, .ref 10)]) (st' := []) (S1 := (SH ++ X)) (V1 := V) rfl ?_
  exact rn_sub [2, 1, 0] rfl rfl (t_Rule_number_4 (X := X) hd ai_N (0 : Int32) (0 : Int32) V _ h)
-- RentByTheWheel$Rule.thing(I)Z (10, None)
def d_Rule_thing_87 (T : Int32 → ai_V → Option (Int32 × ai_V))  (s0 : Int32) (V : ai_V) : Option (Int32 × ai_V) :=
  if 0 ≤ s0 then ((d_Rule_emit ((1000 : Int32) + s0) V).bind fun q1 => (some ((1 : Int32), (si q1 10 7 ((gi q1 10 7) + (1 : Int32)))))) else (some ((0 : Int32), V))
set_option maxRecDepth 20000 in
theorem t_Rule_thing_87 (T : Int32 → ai_V → Option (Int32 × ai_V)) (DT : Nat) (hT : ∀ {X : ai_S} {e : Nat}, DT ≤ e → ∀ (x1 : Int32) (V : ai_V) (r : (Int32 × ai_V)), T x1 V = some r → Rn e 71 0 (lv_args 0 [.ref 10, .int x1]) [] (SH ++ X) V (some (.int r.1)) (SH ++ X) r.2) {X : ai_S} {e : Nat} (hd : DT + 5 ≤ e ∧ 6 ≤ e)  (s0 : Int32) (V : ai_V) (r : (Int32 × ai_V)) (h : d_Rule_thing_87 T  s0 V = some r) : Rn e 71 87 [(0, .ref 10)] [.int s0] (SH ++ X) V (some (.int r.1)) (SH ++ X) r.2 := by
  rw [d_Rule_thing_87] at h
  refine rn_go 2 (pc' := 89) (l' := [(3, .int s0), (0, .ref 10)]) (st' := [.int s0]) (S1 := (SH ++ X)) (V1 := V) rfl ?_
  rcases ai_if h with ⟨hc, h⟩ | ⟨hc, h⟩
  · refine rn_brT rfl rfl rfl rfl hc ?_
    refine rn_go 4 (pc' := 100) (l' := [(3, .int s0), (0, .ref 10)]) (st' := [.int ((1000 : Int32) + s0), .ref 10]) (S1 := (SH ++ X)) (V1 := V) rfl ?_
    obtain ⟨q1, hq1, h⟩ := ai_bd h
    refine rn_call rfl rfl rfl rfl rfl rfl (by omega) (t_Rule_emit (by omega) hq1) ?_
    refine rn_go 7 (pc' := 114) (l' := [(3, .int s0), (0, .ref 10)]) (st' := [.int (1 : Int32)]) (S1 := (SH ++ X)) (V1 := (si q1 10 7 ((gi q1 10 7) + (1 : Int32)))) rfl ?_
    obtain rfl := Option.some.inj h
    exact rg_zret rfl (by decide)
  · refine rn_brF rfl rfl rfl rfl hc ?_
    refine rn_go 1 (pc' := 93) (l' := [(3, .int s0), (0, .ref 10)]) (st' := [.int (0 : Int32)]) (S1 := (SH ++ X)) (V1 := V) rfl ?_
    obtain rfl := Option.some.inj h
    exact rg_zret rfl (by decide)
def d_Rule_thing_72 (T : Int32 → ai_V → Option (Int32 × ai_V))  (x2 : Int32) (V : ai_V) : Option (Int32 × ai_V) :=
  if 0 ≤ x2 then ((d_Str_indexOf (((x2).toUInt32 % 65536).toInt32) V).bind fun q2 => (d_Rule_thing_87 T q2 V)) else (d_Rule_thing_87 T (-1 : Int32) V)
set_option maxRecDepth 20000 in
theorem t_Rule_thing_72 (T : Int32 → ai_V → Option (Int32 × ai_V)) (DT : Nat) (hT : ∀ {X : ai_S} {e : Nat}, DT ≤ e → ∀ (x1 : Int32) (V : ai_V) (r : (Int32 × ai_V)), T x1 V = some r → Rn e 71 0 (lv_args 0 [.ref 10, .int x1]) [] (SH ++ X) V (some (.int r.1)) (SH ++ X) r.2) {X : ai_S} {e : Nat} (hd : DT + 5 ≤ e ∧ 6 ≤ e)  (x2 : Int32) (V : ai_V) (r : (Int32 × ai_V)) (h : d_Rule_thing_72 T  x2 V = some r) : Rn e 71 72 [(0, .ref 10), (2, .int x2)] [] (SH ++ X) V (some (.int r.1)) (SH ++ X) r.2 := by
  rw [d_Rule_thing_72] at h
  refine rn_go 1 (pc' := 73) (l' := [(0, .ref 10), (2, .int x2)]) (st' := [.int x2]) (S1 := (SH ++ X)) (V1 := V) rfl ?_
  rcases ai_if h with ⟨hc, h⟩ | ⟨hc, h⟩
  · refine rn_brT rfl rfl rfl rfl hc ?_
    refine rn_go 3 (pc' := 84) (l' := [(0, .ref 10), (2, .int x2)]) (st' := [.int ((x2).toUInt32 % 65536).toInt32, .ref 999999]) (S1 := (SH ++ X)) (V1 := V) rfl ?_
    obtain ⟨q2, hq2, h⟩ := ai_bd h
    refine rn_call rfl rfl rfl rfl rfl rfl (by omega) (t_Str_indexOf (by omega) hq2) ?_
    exact rn_sub [0] rfl rfl (t_Rule_thing_87 T DT hT (X := X) hd q2 V _ h)
  · refine rn_brF rfl rfl rfl rfl hc ?_
    refine rn_go 2 (pc' := 87) (l' := [(0, .ref 10), (2, .int x2)]) (st' := [.int (-1 : Int32)]) (S1 := (SH ++ X)) (V1 := V) rfl ?_
    exact rn_sub [0] rfl rfl (t_Rule_thing_87 T DT hT (X := X) hd (-1 : Int32) V _ h)
def d_Rule_thing_B (T : Int32 → ai_V → Option (Int32 × ai_V)) (x1 : Int32) (V : ai_V) : Option (Int32 × ai_V) :=
  (d_Rule_here  V).bind fun q3 => ((d_Text_isDigit q3 V).bind fun q4 => (if q4 = 0 then (if ¬ q3 = (40 : Int32) then (d_Rule_thing_72 T q3 V) else (if (4 : Int32) ≤ x1 then (d_Rule_thing_72 T q3 V) else ((d_Rule_expression_B T (x1 + (1 : Int32)) (si V 10 7 ((gi V 10 7) + (1 : Int32)))).bind fun q5 => (if q5.1 = 0 then (some ((0 : Int32), q5.2)) else ((d_Rule_here  q5.2).bind fun q6 => (if q6 = (41 : Int32) then (some ((1 : Int32), (si q5.2 10 7 ((gi q5.2 10 7) + (1 : Int32))))) else (some ((0 : Int32), q5.2)))))))) else ((d_Rule_number  V).bind fun q7 => (some ((1 : Int32), q7)))))
set_option maxRecDepth 20000 in
theorem t_Rule_thing_B (T : Int32 → ai_V → Option (Int32 × ai_V)) (DT : Nat) (hT : ∀ {X : ai_S} {e : Nat}, DT ≤ e → ∀ (x1 : Int32) (V : ai_V) (r : (Int32 × ai_V)), T x1 V = some r → Rn e 71 0 (lv_args 0 [.ref 10, .int x1]) [] (SH ++ X) V (some (.int r.1)) (SH ++ X) r.2) {X : ai_S} {e : Nat} (hd : DT + 5 ≤ e ∧ 6 ≤ e) {x1 : Int32} {V : ai_V} {r : (Int32 × ai_V)} (h : d_Rule_thing_B T x1 V = some r) : Rn e 71 0 (lv_args 0 [.ref 10, .int x1]) [] (SH ++ X) V (some (.int r.1)) (SH ++ X) r.2 := by
  rw [d_Rule_thing_B] at h
  refine rn_go 1 (pc' := 1) (l' := [(0, .ref 10), (1, .int x1)]) (st' := [.ref 10]) (S1 := (SH ++ X)) (V1 := V) rfl ?_
  obtain ⟨q3, hq3, h⟩ := ai_bd h
  refine rn_call rfl rfl rfl rfl rfl rfl (by omega) (t_Rule_here (by omega) hq3) ?_
  refine rn_go 2 (pc' := 6) (l' := [(2, .int q3), (0, .ref 10), (1, .int x1)]) (st' := [.int q3]) (S1 := (SH ++ X)) (V1 := V) rfl ?_
  obtain ⟨q4, hq4, h⟩ := ai_bd h
  refine rn_call rfl rfl rfl rfl rfl rfl (by omega) (t_Text_isDigit (by omega) hq4) ?_
  rcases ai_if h with ⟨hc, h⟩ | ⟨hc, h⟩
  · refine rn_brT rfl rfl rfl rfl hc ?_
    refine rn_go 2 (pc' := 21) (l' := [(2, .int q3), (0, .ref 10), (1, .int x1)]) (st' := [.int (40 : Int32), .int q3]) (S1 := (SH ++ X)) (V1 := V) rfl ?_
    rcases ai_if h with ⟨hc, h⟩ | ⟨hc, h⟩
    · refine rn_brT rfl rfl rfl rfl hc ?_
      exact rn_sub [1, 0] rfl rfl (t_Rule_thing_72 T DT hT (X := X) hd q3 V _ h)
    · refine rn_brF rfl rfl rfl rfl hc ?_
      refine rn_go 2 (pc' := 26) (l' := [(2, .int q3), (0, .ref 10), (1, .int x1)]) (st' := [.int (4 : Int32), .int x1]) (S1 := (SH ++ X)) (V1 := V) rfl ?_
      rcases ai_if h with ⟨hc, h⟩ | ⟨hc, h⟩
      · refine rn_brT rfl rfl rfl rfl hc ?_
        exact rn_sub [1, 0] rfl rfl (t_Rule_thing_72 T DT hT (X := X) hd q3 V _ h)
      · refine rn_brF rfl rfl rfl rfl hc ?_
        refine rn_go 10 (pc' := 43) (l' := [(2, .int q3), (0, .ref 10), (1, .int x1)]) (st' := [.int (x1 + (1 : Int32)), .ref 10]) (S1 := (SH ++ X)) (V1 := (si V 10 7 ((gi V 10 7) + (1 : Int32)))) rfl ?_
        obtain ⟨q5, hq5, h⟩ := ai_bd h
        refine rn_call rfl rfl rfl rfl rfl rfl (by omega) (t_Rule_expression_B T DT hT (by omega) hq5) ?_
        rcases ai_if h with ⟨hc, h⟩ | ⟨hc, h⟩
        · refine rn_brT rfl rfl rfl rfl hc ?_
          refine rn_go 1 (pc' := 59) (l' := [(2, .int q3), (0, .ref 10), (1, .int x1)]) (st' := [.int (0 : Int32)]) (S1 := (SH ++ X)) (V1 := q5.2) rfl ?_
          obtain rfl := Option.some.inj h
          exact rg_zret rfl (by decide)
        · refine rn_brF rfl rfl rfl rfl hc ?_
          refine rn_go 1 (pc' := 50) (l' := [(2, .int q3), (0, .ref 10), (1, .int x1)]) (st' := [.ref 10]) (S1 := (SH ++ X)) (V1 := q5.2) rfl ?_
          obtain ⟨q6, hq6, h⟩ := ai_bd h
          refine rn_call rfl rfl rfl rfl rfl rfl (by omega) (t_Rule_here (by omega) hq6) ?_
          refine rn_go 1 (pc' := 55) (l' := [(2, .int q3), (0, .ref 10), (1, .int x1)]) (st' := [.int (41 : Int32), .int q6]) (S1 := (SH ++ X)) (V1 := q5.2) rfl ?_
          rcases ai_if h with ⟨hc, h⟩ | ⟨hc, h⟩
          · refine rn_brT rfl rfl rfl rfl hc ?_
            refine rn_go 7 (pc' := 71) (l' := [(2, .int q3), (0, .ref 10), (1, .int x1)]) (st' := [.int (1 : Int32)]) (S1 := (SH ++ X)) (V1 := (si q5.2 10 7 ((gi q5.2 10 7) + (1 : Int32)))) rfl ?_
            obtain rfl := Option.some.inj h
            exact rg_zret rfl (by decide)
          · refine rn_brF rfl rfl rfl rfl hc ?_
            refine rn_go 1 (pc' := 59) (l' := [(2, .int q3), (0, .ref 10), (1, .int x1)]) (st' := [.int (0 : Int32)]) (S1 := (SH ++ X)) (V1 := q5.2) rfl ?_
            obtain rfl := Option.some.inj h
            exact rg_zret rfl (by decide)
  · refine rn_brF rfl rfl rfl rfl hc ?_
    refine rn_go 1 (pc' := 13) (l' := [(2, .int q3), (0, .ref 10), (1, .int x1)]) (st' := [.ref 10]) (S1 := (SH ++ X)) (V1 := V) rfl ?_
    obtain ⟨q7, hq7, h⟩ := ai_bd h
    refine rn_call rfl rfl rfl rfl rfl rfl (by omega) (t_Rule_number (by omega) hq7) ?_
    refine rn_go 1 (pc' := 17) (l' := [(2, .int q3), (0, .ref 10), (1, .int x1)]) (st' := [.int (1 : Int32)]) (S1 := (SH ++ X)) (V1 := q7) rfl ?_
    obtain rfl := Option.some.inj h
    exact rg_zret rfl (by decide)
def d_Rule_thing_R : Nat → Int32 → ai_V → Option (Int32 × ai_V)
  | 0, _, _ => none
  | n + 1, x1, V => d_Rule_thing_B (d_Rule_thing_R n) x1 V
theorem t_Rule_thing_R : ∀ (n : Nat) {X : ai_S} {e : Nat} (hd : n * 5 + 6 ≤ e) (x1 : Int32) (V : ai_V) (r : (Int32 × ai_V)), d_Rule_thing_R n x1 V = some r → Rn e 71 0 (lv_args 0 [.ref 10, .int x1]) [] (SH ++ X) V (some (.int r.1)) (SH ++ X) r.2 := by
  intro n
  induction n with
  | zero =>
    intro X e hd x1 V r h
    cases h
  | succ n ih =>
    intro X e hd x1 V r h
    exact t_Rule_thing_B (d_Rule_thing_R n) (n * 5 + 6) (fun hd2 => ih hd2) (by omega) (show d_Rule_thing_B (d_Rule_thing_R n) x1 V = some r from h)
def d_Rule_thing : Int32 → ai_V → Option (Int32 × ai_V) := d_Rule_thing_R 80
theorem t_Rule_thing {X : ai_S} {e : Nat} (hd : 406 ≤ e) {x1 : Int32} {V : ai_V} {r : (Int32 × ai_V)} (h : d_Rule_thing x1 V = some r) : Rn e 71 0 (lv_args 0 [.ref 10, .int x1]) [] (SH ++ X) V (some (.int r.1)) (SH ++ X) r.2 := t_Rule_thing_R 80 (by omega) x1 V r h
def d_Rule_negated : Int32 → ai_V → Option (Int32 × ai_V) := d_Rule_negated_B d_Rule_thing
theorem t_Rule_negated {X : ai_S} {e : Nat} (hd : 407 ≤ e) {x1 : Int32} {V : ai_V} {r : (Int32 × ai_V)} (h : d_Rule_negated x1 V = some r) : Rn e 72 0 (lv_args 0 [.ref 10, .int x1]) [] (SH ++ X) V (some (.int r.1)) (SH ++ X) r.2 := t_Rule_negated_B d_Rule_thing 406 (fun hd2 => t_Rule_thing_R 80 hd2) (by omega) h
def d_Rule_product : Int32 → ai_V → Option (Int32 × ai_V) := d_Rule_product_B d_Rule_thing
theorem t_Rule_product {X : ai_S} {e : Nat} (hd : 408 ≤ e) {x1 : Int32} {V : ai_V} {r : (Int32 × ai_V)} (h : d_Rule_product x1 V = some r) : Rn e 73 0 (lv_args 0 [.ref 10, .int x1]) [] (SH ++ X) V (some (.int r.1)) (SH ++ X) r.2 := t_Rule_product_B d_Rule_thing 406 (fun hd2 => t_Rule_thing_R 80 hd2) (by omega) h
def d_Rule_sum : Int32 → ai_V → Option (Int32 × ai_V) := d_Rule_sum_B d_Rule_thing
theorem t_Rule_sum {X : ai_S} {e : Nat} (hd : 409 ≤ e) {x1 : Int32} {V : ai_V} {r : (Int32 × ai_V)} (h : d_Rule_sum x1 V = some r) : Rn e 74 0 (lv_args 0 [.ref 10, .int x1]) [] (SH ++ X) V (some (.int r.1)) (SH ++ X) r.2 := t_Rule_sum_B d_Rule_thing 406 (fun hd2 => t_Rule_thing_R 80 hd2) (by omega) h
def d_Rule_expression : Int32 → ai_V → Option (Int32 × ai_V) := d_Rule_expression_B d_Rule_thing
theorem t_Rule_expression {X : ai_S} {e : Nat} (hd : 410 ≤ e) {x1 : Int32} {V : ai_V} {r : (Int32 × ai_V)} (h : d_Rule_expression x1 V = some r) : Rn e 75 0 (lv_args 0 [.ref 10, .int x1]) [] (SH ++ X) V (some (.int r.1)) (SH ++ X) r.2 := t_Rule_expression_B d_Rule_thing 406 (fun hd2 => t_Rule_thing_R 80 hd2) (by omega) h
-- RentByTheWheel$Rule.read()I (10,)
def d_Rule_read_69   (V : ai_V) : Option (Int32 × ai_V) :=
  some (((-1 : Int32) - (gi V 10 7)), V)
set_option maxRecDepth 20000 in
theorem t_Rule_read_69 {X : ai_S} {e : Nat} (hd : 411 ≤ e)   (V : ai_V) (r : (Int32 × ai_V)) (h : d_Rule_read_69   V = some r) : Rn e 76 69 [(0, .ref 10)] [] (SH ++ X) V (some (.int r.1)) (SH ++ X) r.2 := by
  rw [d_Rule_read_69] at h
  refine rn_go 4 (pc' := 75) (l' := [(0, .ref 10)]) (st' := [.int ((-1 : Int32) - (gi V 10 7))]) (S1 := (SH ++ X)) (V1 := V) rfl ?_
  obtain rfl := Option.some.inj h
  exact rn_ret rfl rfl rfl
def d_Rule_read_52  (s0 : Int32) (V : ai_V) : Option (Int32 × ai_V) :=
  if s0 = 0 then (d_Rule_read_69 V) else (if (gi V 1 1) ≤ (40 : Int32) then (if 0 ≤ (0 : Int32) ∧ 0 ≤ (0 : Int32) ∧ 0 ≤ (gi V 10 6) ∧ ((0 : Int32)).toNatClampNeg + ((gi V 10 6)).toNatClampNeg ≤ 40 ∧ ((0 : Int32)).toNatClampNeg + ((gi V 10 6)).toNatClampNeg ≤ 40 then (some ((0 : Int32), (si (ai_cpy V 14 11 ((0 : Int32)).toNatClampNeg ((0 : Int32)).toNatClampNeg ((gi V 10 6)).toNatClampNeg) 10 1 (gi (ai_cpy V 14 11 ((0 : Int32)).toNatClampNeg ((0 : Int32)).toNatClampNeg ((gi V 10 6)).toNatClampNeg) 10 6)))) else none) else (d_Rule_read_69 V))
set_option maxRecDepth 20000 in
theorem t_Rule_read_52 {X : ai_S} {e : Nat} (hd : 411 ≤ e)  (s0 : Int32) (V : ai_V) (r : (Int32 × ai_V)) (h : d_Rule_read_52  s0 V = some r) : Rn e 76 52 [(0, .ref 10)] [.int s0] (SH ++ X) V (some (.int r.1)) (SH ++ X) r.2 := by
  rw [d_Rule_read_52] at h
  refine rn_go 2 (pc' := 54) (l' := [(1, .int s0), (0, .ref 10)]) (st' := [.int s0]) (S1 := (SH ++ X)) (V1 := V) rfl ?_
  rcases ai_if h with ⟨hc, h⟩ | ⟨hc, h⟩
  · refine rn_brT rfl rfl rfl rfl hc ?_
    exact rn_sub [1] rfl rfl (t_Rule_read_69 (X := X) hd V _ h)
  · refine rn_brF rfl rfl rfl rfl hc ?_
    refine rn_go 4 (pc' := 66) (l' := [(1, .int s0), (0, .ref 10)]) (st' := [.int (40 : Int32), .int (gi V 1 1)]) (S1 := (SH ++ X)) (V1 := V) rfl ?_
    rcases ai_if h with ⟨hc, h⟩ | ⟨hc, h⟩
    · refine rn_brT rfl rfl rfl rfl hc ?_
      refine rn_go 8 (pc' := 90) (l' := [(1, .int s0), (0, .ref 10)]) (st' := [.int (gi V 10 6), .int (0 : Int32), .ref 11, .int (0 : Int32), .ref 14]) (S1 := (SH ++ X)) (V1 := V) rfl ?_
      obtain ⟨hg, h⟩ := ai_gd h
      refine rg_acp (n := 40) (n1 := 40) rfl rfl rfl (by decide) hg ?_
      refine rn_go 5 (pc' := 102) (l' := [(1, .int s0), (0, .ref 10)]) (st' := [.int (0 : Int32)]) (S1 := (SH ++ X)) (V1 := (si (ai_cpy V 14 11 ((0 : Int32)).toNatClampNeg ((0 : Int32)).toNatClampNeg ((gi V 10 6)).toNatClampNeg) 10 1 (gi (ai_cpy V 14 11 ((0 : Int32)).toNatClampNeg ((0 : Int32)).toNatClampNeg ((gi V 10 6)).toNatClampNeg) 10 6))) rfl ?_
      obtain rfl := Option.some.inj h
      exact rn_ret rfl rfl rfl
    · refine rn_brF rfl rfl rfl rfl hc ?_
      exact rn_sub [1] rfl rfl (t_Rule_read_69 (X := X) hd V _ h)
def d_Rule_read_47   (V : ai_V) : Option (Int32 × ai_V) :=
  d_Rule_read_52 (1 : Int32) V
set_option maxRecDepth 20000 in
theorem t_Rule_read_47 {X : ai_S} {e : Nat} (hd : 411 ≤ e)   (V : ai_V) (r : (Int32 × ai_V)) (h : d_Rule_read_47   V = some r) : Rn e 76 47 [(0, .ref 10)] [] (SH ++ X) V (some (.int r.1)) (SH ++ X) r.2 := by
  rw [d_Rule_read_47] at h
  refine rn_go 2 (pc' := 52) (l' := [(0, .ref 10)]) (st' := [.int (1 : Int32)]) (S1 := (SH ++ X)) (V1 := V) rfl ?_
  exact rn_sub [0] rfl rfl (t_Rule_read_52 (X := X) hd (1 : Int32) V _ h)
def d_Rule_read_51   (V : ai_V) : Option (Int32 × ai_V) :=
  d_Rule_read_52 (0 : Int32) V
set_option maxRecDepth 20000 in
theorem t_Rule_read_51 {X : ai_S} {e : Nat} (hd : 411 ≤ e)   (V : ai_V) (r : (Int32 × ai_V)) (h : d_Rule_read_51   V = some r) : Rn e 76 51 [(0, .ref 10)] [] (SH ++ X) V (some (.int r.1)) (SH ++ X) r.2 := by
  rw [d_Rule_read_51] at h
  refine rn_go 1 (pc' := 52) (l' := [(0, .ref 10)]) (st' := [.int (0 : Int32)]) (S1 := (SH ++ X)) (V1 := V) rfl ?_
  exact rn_sub [0] rfl rfl (t_Rule_read_52 (X := X) hd (0 : Int32) V _ h)
def d_Rule_read  (V : ai_V) : Option (Int32 × ai_V) :=
  if (gi (si (si V 10 7 (0 : Int32)) 10 6 (0 : Int32)) 1 1) = 0 then (d_Rule_read_47 (si (si V 10 7 (0 : Int32)) 10 6 (0 : Int32))) else ((d_Rule_expression (0 : Int32) (si (si V 10 7 (0 : Int32)) 10 6 (0 : Int32))).bind fun q1 => (if q1.1 = 0 then (d_Rule_read_51 q1.2) else (if (gi q1.2 10 7) < (ai_min (gi q1.2 1 1) (40 : Int32)) then (d_Rule_read_51 q1.2) else (d_Rule_read_47 q1.2))))
set_option maxRecDepth 20000 in
theorem t_Rule_read {X : ai_S} {e : Nat} (hd : 411 ≤ e)  {V : ai_V} {r : (Int32 × ai_V)} (h : d_Rule_read  V = some r) : Rn e 76 0 (lv_args 0 [.ref 10]) [] (SH ++ X) V (some (.int r.1)) (SH ++ X) r.2 := by
  rw [d_Rule_read] at h
  refine rn_go 9 (pc' := 17) (l' := [(0, .ref 10)]) (st' := [.int (gi (si (si V 10 7 (0 : Int32)) 10 6 (0 : Int32)) 1 1)]) (S1 := (SH ++ X)) (V1 := (si (si V 10 7 (0 : Int32)) 10 6 (0 : Int32))) rfl ?_
  rcases ai_if h with ⟨hc, h⟩ | ⟨hc, h⟩
  · refine rn_brT rfl rfl rfl rfl hc ?_
    exact rn_sub [0] rfl rfl (t_Rule_read_47 (X := X) hd (si (si V 10 7 (0 : Int32)) 10 6 (0 : Int32)) _ h)
  · refine rn_brF rfl rfl rfl rfl hc ?_
    refine rn_go 2 (pc' := 22) (l' := [(0, .ref 10)]) (st' := [.int (0 : Int32), .ref 10]) (S1 := (SH ++ X)) (V1 := (si (si V 10 7 (0 : Int32)) 10 6 (0 : Int32))) rfl ?_
    obtain ⟨q1, hq1, h⟩ := ai_bd h
    refine rn_call rfl rfl rfl rfl rfl rfl (by omega) (t_Rule_expression (by omega) hq1) ?_
    rcases ai_if h with ⟨hc, h⟩ | ⟨hc, h⟩
    · refine rn_brT rfl rfl rfl rfl hc ?_
      exact rn_sub [0] rfl rfl (t_Rule_read_51 (X := X) hd q1.2 _ h)
    · refine rn_brF rfl rfl rfl rfl hc ?_
      refine rn_go 7 (pc' := 44) (l' := [(0, .ref 10)]) (st' := [.int (ai_min (gi q1.2 1 1) (40 : Int32)), .int (gi q1.2 10 7)]) (S1 := (SH ++ X)) (V1 := q1.2) rfl ?_
      rcases ai_if h with ⟨hc, h⟩ | ⟨hc, h⟩
      · refine rn_brT rfl rfl rfl rfl hc ?_
        exact rn_sub [0] rfl rfl (t_Rule_read_51 (X := X) hd q1.2 _ h)
      · refine rn_brF rfl rfl rfl rfl hc ?_
        exact rn_sub [0] rfl rfl (t_Rule_read_47 (X := X) hd q1.2 _ h)
-- RentByTheWheel.rule()I (0,)
def d_X_rule  (V : ai_V) : Option (Int32 × ai_V) :=
  (d_Rule_read  V).bind fun q1 => ((d_Text_clear  q1.2).bind fun q2 => (some (q1.1, q2)))
set_option maxRecDepth 20000 in
theorem t_X_rule {X : ai_S} {e : Nat} (hd : 412 ≤ e)  {V : ai_V} {r : (Int32 × ai_V)} (h : d_X_rule  V = some r) : Rn e 97 0 (lv_args 0 [.ref 0]) [] (SH ++ X) V (some (.int r.1)) (SH ++ X) r.2 := by
  rw [d_X_rule] at h
  refine rn_go 2 (pc' := 4) (l' := [(0, .ref 0)]) (st' := [.ref 10]) (S1 := (SH ++ X)) (V1 := V) rfl ?_
  obtain ⟨q1, hq1, h⟩ := ai_bd h
  refine rn_call rfl rfl rfl rfl rfl rfl (by omega) (t_Rule_read (by omega) hq1) ?_
  refine rn_go 3 (pc' := 12) (l' := [(1, .int q1.1), (0, .ref 0)]) (st' := [.ref 1]) (S1 := (SH ++ X)) (V1 := q1.2) rfl ?_
  obtain ⟨q2, hq2, h⟩ := ai_bd h
  refine rn_call rfl rfl rfl rfl rfl rfl (by omega) (t_Text_clear (by omega) hq2) ?_
  refine rn_go 1 (pc' := 16) (l' := [(1, .int q1.1), (0, .ref 0)]) (st' := [.int q1.1]) (S1 := (SH ++ X)) (V1 := q2) rfl ?_
  obtain rfl := Option.some.inj h
  exact rn_ret rfl rfl rfl
-- RentByTheWheel$House.has(I)Z (3, None)
def d_House_has (x1 : Int32) (V : ai_V) : Option Int32 :=
  if x1 < 0 then (some (0 : Int32)) else (if (gi V 3 0) ≤ x1 then (some (0 : Int32)) else (some (1 : Int32)))
set_option maxRecDepth 20000 in
theorem t_House_has {X : ai_S} {e : Nat} (hd : 0 ≤ e) {x1 : Int32} {V : ai_V} {r : Int32} (h : d_House_has x1 V = some r) : Rn e 19 0 (lv_args 0 [.ref 3, .int x1]) [] (SH ++ X) V (some (.int r)) (SH ++ X) V := by
  rw [d_House_has] at h
  refine rn_go 1 (pc' := 1) (l' := [(0, .ref 3), (1, .int x1)]) (st' := [.int x1]) (S1 := (SH ++ X)) (V1 := V) rfl ?_
  rcases ai_if h with ⟨hc, h⟩ | ⟨hc, h⟩
  · refine rn_brT rfl rfl rfl rfl hc ?_
    refine rn_go 1 (pc' := 17) (l' := [(0, .ref 3), (1, .int x1)]) (st' := [.int (0 : Int32)]) (S1 := (SH ++ X)) (V1 := V) rfl ?_
    obtain rfl := Option.some.inj h
    exact rg_zret rfl (by decide)
  · refine rn_brF rfl rfl rfl rfl hc ?_
    refine rn_go 3 (pc' := 9) (l' := [(0, .ref 3), (1, .int x1)]) (st' := [.int (gi V 3 0), .int x1]) (S1 := (SH ++ X)) (V1 := V) rfl ?_
    rcases ai_if h with ⟨hc, h⟩ | ⟨hc, h⟩
    · refine rn_brT rfl rfl rfl rfl hc ?_
      refine rn_go 1 (pc' := 17) (l' := [(0, .ref 3), (1, .int x1)]) (st' := [.int (0 : Int32)]) (S1 := (SH ++ X)) (V1 := V) rfl ?_
      obtain rfl := Option.some.inj h
      exact rg_zret rfl (by decide)
    · refine rn_brF rfl rfl rfl rfl hc ?_
      refine rn_go 2 (pc' := 17) (l' := [(0, .ref 3), (1, .int x1)]) (st' := [.int (1 : Int32)]) (S1 := (SH ++ X)) (V1 := V) rfl ?_
      obtain rfl := Option.some.inj h
      exact rg_zret rfl (by decide)
-- RentByTheWheel$House.canTread(II)Z (3, None, None)
def d_House_canTread_42   (V : ai_V) : Option Int32 :=
  some (1 : Int32)
set_option maxRecDepth 20000 in
theorem t_House_canTread_42 {X : ai_S} {e : Nat} (hd : 1 ≤ e)   (V : ai_V) (r : Int32) (h : d_House_canTread_42   V = some r) : Rn e 20 42 [] [] (SH ++ X) V (some (.int r)) (SH ++ X) V := by
  rw [d_House_canTread_42] at h
  refine rn_go 2 (pc' := 47) (l' := []) (st' := [.int (1 : Int32)]) (S1 := (SH ++ X)) (V1 := V) rfl ?_
  obtain rfl := Option.some.inj h
  exact rg_zret rfl (by decide)
def d_House_canTread (x1 : Int32) (x2 : Int32) (V : ai_V) : Option Int32 :=
  if ¬ x1 = (-1 : Int32) then ((d_House_has x1 V).bind fun q1 => (if q1 = 0 then (some (0 : Int32)) else (if x1 = x2 then (some (0 : Int32)) else (if x2 = (-1 : Int32) then (d_House_canTread_42 V) else ((d_House_has x2 V).bind fun q2 => (if q2 = 0 then (some (0 : Int32)) else (d_House_canTread_42 V))))))) else (if ¬ x2 = (-1 : Int32) then (some (0 : Int32)) else (some (1 : Int32)))
set_option maxRecDepth 20000 in
theorem t_House_canTread {X : ai_S} {e : Nat} (hd : 1 ≤ e) {x1 : Int32} {x2 : Int32} {V : ai_V} {r : Int32} (h : d_House_canTread x1 x2 V = some r) : Rn e 20 0 (lv_args 0 [.ref 3, .int x1, .int x2]) [] (SH ++ X) V (some (.int r)) (SH ++ X) V := by
  rw [d_House_canTread] at h
  refine rn_go 2 (pc' := 2) (l' := [(0, .ref 3), (1, .int x1), (2, .int x2)]) (st' := [.int (-1 : Int32), .int x1]) (S1 := (SH ++ X)) (V1 := V) rfl ?_
  rcases ai_if h with ⟨hc, h⟩ | ⟨hc, h⟩
  · refine rn_brT rfl rfl rfl rfl hc ?_
    refine rn_go 2 (pc' := 18) (l' := [(0, .ref 3), (1, .int x1), (2, .int x2)]) (st' := [.int x1, .ref 3]) (S1 := (SH ++ X)) (V1 := V) rfl ?_
    obtain ⟨q1, hq1, h⟩ := ai_bd h
    refine rn_call rfl rfl rfl rfl rfl rfl (by omega) (t_House_has (by omega) hq1) ?_
    rcases ai_if h with ⟨hc, h⟩ | ⟨hc, h⟩
    · refine rn_brT rfl rfl rfl rfl hc ?_
      refine rn_go 1 (pc' := 47) (l' := [(0, .ref 3), (1, .int x1), (2, .int x2)]) (st' := [.int (0 : Int32)]) (S1 := (SH ++ X)) (V1 := V) rfl ?_
      obtain rfl := Option.some.inj h
      exact rg_zret rfl (by decide)
    · refine rn_brF rfl rfl rfl rfl hc ?_
      refine rn_go 2 (pc' := 26) (l' := [(0, .ref 3), (1, .int x1), (2, .int x2)]) (st' := [.int x2, .int x1]) (S1 := (SH ++ X)) (V1 := V) rfl ?_
      rcases ai_if h with ⟨hc, h⟩ | ⟨hc, h⟩
      · refine rn_brT rfl rfl rfl rfl hc ?_
        refine rn_go 1 (pc' := 47) (l' := [(0, .ref 3), (1, .int x1), (2, .int x2)]) (st' := [.int (0 : Int32)]) (S1 := (SH ++ X)) (V1 := V) rfl ?_
        obtain rfl := Option.some.inj h
        exact rg_zret rfl (by decide)
      · refine rn_brF rfl rfl rfl rfl hc ?_
        refine rn_go 2 (pc' := 31) (l' := [(0, .ref 3), (1, .int x1), (2, .int x2)]) (st' := [.int (-1 : Int32), .int x2]) (S1 := (SH ++ X)) (V1 := V) rfl ?_
        rcases ai_if h with ⟨hc, h⟩ | ⟨hc, h⟩
        · refine rn_brT rfl rfl rfl rfl hc ?_
          exact rn_sub [] rfl rfl (t_House_canTread_42 (X := X) hd V _ h)
        · refine rn_brF rfl rfl rfl rfl hc ?_
          refine rn_go 2 (pc' := 36) (l' := [(0, .ref 3), (1, .int x1), (2, .int x2)]) (st' := [.int x2, .ref 3]) (S1 := (SH ++ X)) (V1 := V) rfl ?_
          obtain ⟨q2, hq2, h⟩ := ai_bd h
          refine rn_call rfl rfl rfl rfl rfl rfl (by omega) (t_House_has (by omega) hq2) ?_
          rcases ai_if h with ⟨hc, h⟩ | ⟨hc, h⟩
          · refine rn_brT rfl rfl rfl rfl hc ?_
            refine rn_go 1 (pc' := 47) (l' := [(0, .ref 3), (1, .int x1), (2, .int x2)]) (st' := [.int (0 : Int32)]) (S1 := (SH ++ X)) (V1 := V) rfl ?_
            obtain rfl := Option.some.inj h
            exact rg_zret rfl (by decide)
          · refine rn_brF rfl rfl rfl rfl hc ?_
            exact rn_sub [] rfl rfl (t_House_canTread_42 (X := X) hd V _ h)
  · refine rn_brF rfl rfl rfl rfl hc ?_
    refine rn_go 2 (pc' := 7) (l' := [(0, .ref 3), (1, .int x1), (2, .int x2)]) (st' := [.int (-1 : Int32), .int x2]) (S1 := (SH ++ X)) (V1 := V) rfl ?_
    rcases ai_if h with ⟨hc, h⟩ | ⟨hc, h⟩
    · refine rn_brT rfl rfl rfl rfl hc ?_
      refine rn_go 1 (pc' := 15) (l' := [(0, .ref 3), (1, .int x1), (2, .int x2)]) (st' := [.int (0 : Int32)]) (S1 := (SH ++ X)) (V1 := V) rfl ?_
      obtain rfl := Option.some.inj h
      exact rg_zret rfl (by decide)
    · refine rn_brF rfl rfl rfl rfl hc ?_
      refine rn_go 2 (pc' := 15) (l' := [(0, .ref 3), (1, .int x1), (2, .int x2)]) (st' := [.int (1 : Int32)]) (S1 := (SH ++ X)) (V1 := V) rfl ?_
      obtain rfl := Option.some.inj h
      exact rg_zret rfl (by decide)
-- RentByTheWheel$House.turnsOf(II)I (3, None, None)
def d_House_turnsOf_18  (x2 : Int32) (s0 : Int32) (V : ai_V) : Option Int32 :=
  (d_House_has x2 V).bind fun q1 => (if q1 = 0 then (some s0) else (if ai_in x2 6 then (some (ai_min s0 (ga V 5 (x2).toNatClampNeg))) else none))
set_option maxRecDepth 20000 in
theorem t_House_turnsOf_18 {X : ai_S} {e : Nat} (hd : 1 ≤ e)  (x2 : Int32) (s0 : Int32) (V : ai_V) (r : Int32) (h : d_House_turnsOf_18  x2 s0 V = some r) : Rn e 21 18 [(0, .ref 3), (2, .int x2)] [.int s0] (SH ++ X) V (some (.int r)) (SH ++ X) V := by
  rw [d_House_turnsOf_18] at h
  refine rn_go 3 (pc' := 21) (l' := [(3, .int s0), (0, .ref 3), (2, .int x2)]) (st' := [.int x2, .ref 3]) (S1 := (SH ++ X)) (V1 := V) rfl ?_
  obtain ⟨q1, hq1, h⟩ := ai_bd h
  refine rn_call rfl rfl rfl rfl rfl rfl (by omega) (t_House_has (by omega) hq1) ?_
  rcases ai_if h with ⟨hc, h⟩ | ⟨hc, h⟩
  · refine rn_brT rfl rfl rfl rfl hc ?_
    refine rn_go 1 (pc' := 41) (l' := [(3, .int s0), (0, .ref 3), (2, .int x2)]) (st' := [.int s0]) (S1 := (SH ++ X)) (V1 := V) rfl ?_
    obtain rfl := Option.some.inj h
    exact rn_ret rfl rfl rfl
  · refine rn_brF rfl rfl rfl rfl hc ?_
    refine rn_go 4 (pc' := 33) (l' := [(3, .int s0), (0, .ref 3), (2, .int x2)]) (st' := [.int x2, .ref 5, .int s0]) (S1 := (SH ++ X)) (V1 := V) rfl ?_
    obtain ⟨hg, h⟩ := ai_gd h
    refine rg_iald (n := 6) rfl rfl hg ?_
    refine rn_go 2 (pc' := 41) (l' := [(3, .int s0), (0, .ref 3), (2, .int x2)]) (st' := [.int (ai_min s0 (ga V 5 (x2).toNatClampNeg))]) (S1 := (SH ++ X)) (V1 := V) rfl ?_
    obtain rfl := Option.some.inj h
    exact rn_ret rfl rfl rfl
def d_House_turnsOf (x1 : Int32) (x2 : Int32) (V : ai_V) : Option Int32 :=
  (d_House_has x1 V).bind fun q2 => (if q2 = 0 then (d_House_turnsOf_18 x2 (0 : Int32) V) else (if ai_in x1 6 then (d_House_turnsOf_18 x2 (ga V 5 (x1).toNatClampNeg) V) else none))
set_option maxRecDepth 20000 in
theorem t_House_turnsOf {X : ai_S} {e : Nat} (hd : 1 ≤ e) {x1 : Int32} {x2 : Int32} {V : ai_V} {r : Int32} (h : d_House_turnsOf x1 x2 V = some r) : Rn e 21 0 (lv_args 0 [.ref 3, .int x1, .int x2]) [] (SH ++ X) V (some (.int r)) (SH ++ X) V := by
  rw [d_House_turnsOf] at h
  refine rn_go 2 (pc' := 2) (l' := [(0, .ref 3), (1, .int x1), (2, .int x2)]) (st' := [.int x1, .ref 3]) (S1 := (SH ++ X)) (V1 := V) rfl ?_
  obtain ⟨q2, hq2, h⟩ := ai_bd h
  refine rn_call rfl rfl rfl rfl rfl rfl (by omega) (t_House_has (by omega) hq2) ?_
  rcases ai_if h with ⟨hc, h⟩ | ⟨hc, h⟩
  · refine rn_brT rfl rfl rfl rfl hc ?_
    refine rn_go 1 (pc' := 18) (l' := [(0, .ref 3), (1, .int x1), (2, .int x2)]) (st' := [.int (0 : Int32)]) (S1 := (SH ++ X)) (V1 := V) rfl ?_
    exact rn_sub [0, 2] rfl rfl (t_House_turnsOf_18 (X := X) hd x2 (0 : Int32) V _ h)
  · refine rn_brF rfl rfl rfl rfl hc ?_
    refine rn_go 3 (pc' := 13) (l' := [(0, .ref 3), (1, .int x1), (2, .int x2)]) (st' := [.int x1, .ref 5]) (S1 := (SH ++ X)) (V1 := V) rfl ?_
    obtain ⟨hg, h⟩ := ai_gd h
    refine rg_iald (n := 6) rfl rfl hg ?_
    refine rn_go 1 (pc' := 18) (l' := [(0, .ref 3), (1, .int x1), (2, .int x2)]) (st' := [.int (ga V 5 (x1).toNatClampNeg)]) (S1 := (SH ++ X)) (V1 := V) rfl ?_
    exact rn_sub [0, 2] rfl rfl (t_House_turnsOf_18 (X := X) hd x2 (ga V 5 (x1).toNatClampNeg) V _ h)
-- RentByTheWheel$State.quarterNow()I (16,)
def d_State_quarterNow  (V : ai_V) : Option Int32 :=
  some ((gi V 16 0) - (gi V 16 0) / (12 : Int32) * (12 : Int32))
set_option maxRecDepth 20000 in
theorem t_State_quarterNow {X : ai_S} {e : Nat} (hd : 0 ≤ e)  {V : ai_V} {r : Int32} (h : d_State_quarterNow  V = some r) : Rn e 33 0 (lv_args 0 [.ref 16]) [] (SH ++ X) V (some (.int r)) (SH ++ X) V := by
  rw [d_State_quarterNow] at h
  refine rn_go 3 (pc' := 6) (l' := [(0, .ref 16)]) (st' := [.int (12 : Int32), .int (gi V 16 0)]) (S1 := (SH ++ X)) (V1 := V) rfl ?_
  refine rg_irem rfl (by decide) ?_
  obtain rfl := Option.some.inj h
  exact rn_ret rfl rfl rfl
-- RentByTheWheel$Rule.joined(III)I (None, None, None)
def d_Rule_joined (x0 : Int32) (x1 : Int32) (x2 : Int32) (V : ai_V) : Option Int32 :=
  if x0 = (42 : Int32) then (some (x1 * x2)) else (if x0 = (43 : Int32) then (some (x1 + x2)) else (if x0 = (45 : Int32) then (some (x1 - x2)) else (if x0 = (47 : Int32) then (if ¬ x2 = 0 then (if x2 = 0 then none else (some (x1 / x2))) else (some (0 : Int32))) else (if x0 = (60 : Int32) then (if x2 ≤ x1 then (some (0 : Int32)) else (some (1 : Int32))) else (if x0 = (62 : Int32) then (if x1 ≤ x2 then (some (0 : Int32)) else (some (1 : Int32))) else (if ¬ x1 = x2 then (some (0 : Int32)) else (some (1 : Int32))))))))
set_option maxRecDepth 20000 in
theorem t_Rule_joined {X : ai_S} {e : Nat} (hd : 0 ≤ e) {x0 : Int32} {x1 : Int32} {x2 : Int32} {V : ai_V} {r : Int32} (h : d_Rule_joined x0 x1 x2 V = some r) : Rn e 34 0 (lv_args 0 [.int x0, .int x1, .int x2]) [] (SH ++ X) V (some (.int r)) (SH ++ X) V := by
  rw [d_Rule_joined] at h
  refine rn_go 1 (pc' := 1) (l' := [(0, .int x0), (1, .int x1), (2, .int x2)]) (st' := [.int x0]) (S1 := (SH ++ X)) (V1 := V) rfl ?_
  rcases ai_if h with ⟨hs0, h⟩ | ⟨hs0, h⟩
  · refine rn_sw rfl rfl rfl rfl (ai_sel_t hs0) ?_
    refine rn_go 3 (pc' := 71) (l' := [(0, .int x0), (1, .int x1), (2, .int x2)]) (st' := [.int (x1 * x2)]) (S1 := (SH ++ X)) (V1 := V) rfl ?_
    obtain rfl := Option.some.inj h
    exact rn_ret rfl rfl rfl
  · rcases ai_if h with ⟨hs1, h⟩ | ⟨hs1, h⟩
    · refine rn_sw rfl rfl rfl rfl (ai_sel_f hs0 (ai_sel_t hs1)) ?_
      refine rn_go 3 (pc' := 63) (l' := [(0, .int x0), (1, .int x1), (2, .int x2)]) (st' := [.int (x1 + x2)]) (S1 := (SH ++ X)) (V1 := V) rfl ?_
      obtain rfl := Option.some.inj h
      exact rn_ret rfl rfl rfl
    · rcases ai_if h with ⟨hs2, h⟩ | ⟨hs2, h⟩
      · refine rn_sw rfl rfl rfl rfl (ai_sel_f hs0 (ai_sel_f hs1 (ai_sel_t hs2))) ?_
        refine rn_go 3 (pc' := 67) (l' := [(0, .int x0), (1, .int x1), (2, .int x2)]) (st' := [.int (x1 - x2)]) (S1 := (SH ++ X)) (V1 := V) rfl ?_
        obtain rfl := Option.some.inj h
        exact rn_ret rfl rfl rfl
      · rcases ai_if h with ⟨hs3, h⟩ | ⟨hs3, h⟩
        · refine rn_sw rfl rfl rfl rfl (ai_sel_f hs0 (ai_sel_f hs1 (ai_sel_f hs2 (ai_sel_t hs3)))) ?_
          refine rn_go 1 (pc' := 73) (l' := [(0, .int x0), (1, .int x1), (2, .int x2)]) (st' := [.int x2]) (S1 := (SH ++ X)) (V1 := V) rfl ?_
          rcases ai_if h with ⟨hc, h⟩ | ⟨hc, h⟩
          · refine rn_brT rfl rfl rfl rfl hc ?_
            refine rn_go 2 (pc' := 82) (l' := [(0, .int x0), (1, .int x1), (2, .int x2)]) (st' := [.int x2, .int x1]) (S1 := (SH ++ X)) (V1 := V) rfl ?_
            obtain ⟨hg, h⟩ := ai_gn h
            refine rg_idiv rfl hg ?_
            obtain rfl := Option.some.inj h
            exact rn_ret rfl rfl rfl
          · refine rn_brF rfl rfl rfl rfl hc ?_
            refine rn_go 2 (pc' := 83) (l' := [(0, .int x0), (1, .int x1), (2, .int x2)]) (st' := [.int (0 : Int32)]) (S1 := (SH ++ X)) (V1 := V) rfl ?_
            obtain rfl := Option.some.inj h
            exact rn_ret rfl rfl rfl
        · rcases ai_if h with ⟨hs4, h⟩ | ⟨hs4, h⟩
          · refine rn_sw rfl rfl rfl rfl (ai_sel_f hs0 (ai_sel_f hs1 (ai_sel_f hs2 (ai_sel_f hs3 (ai_sel_t hs4))))) ?_
            refine rn_go 2 (pc' := 86) (l' := [(0, .int x0), (1, .int x1), (2, .int x2)]) (st' := [.int x2, .int x1]) (S1 := (SH ++ X)) (V1 := V) rfl ?_
            rcases ai_if h with ⟨hc, h⟩ | ⟨hc, h⟩
            · refine rn_brT rfl rfl rfl rfl hc ?_
              refine rn_go 1 (pc' := 94) (l' := [(0, .int x0), (1, .int x1), (2, .int x2)]) (st' := [.int (0 : Int32)]) (S1 := (SH ++ X)) (V1 := V) rfl ?_
              obtain rfl := Option.some.inj h
              exact rn_ret rfl rfl rfl
            · refine rn_brF rfl rfl rfl rfl hc ?_
              refine rn_go 2 (pc' := 94) (l' := [(0, .int x0), (1, .int x1), (2, .int x2)]) (st' := [.int (1 : Int32)]) (S1 := (SH ++ X)) (V1 := V) rfl ?_
              obtain rfl := Option.some.inj h
              exact rn_ret rfl rfl rfl
          · rcases ai_if h with ⟨hs5, h⟩ | ⟨hs5, h⟩
            · refine rn_sw rfl rfl rfl rfl (ai_sel_f hs0 (ai_sel_f hs1 (ai_sel_f hs2 (ai_sel_f hs3 (ai_sel_f hs4 (ai_sel_t hs5)))))) ?_
              refine rn_go 2 (pc' := 97) (l' := [(0, .int x0), (1, .int x1), (2, .int x2)]) (st' := [.int x2, .int x1]) (S1 := (SH ++ X)) (V1 := V) rfl ?_
              rcases ai_if h with ⟨hc, h⟩ | ⟨hc, h⟩
              · refine rn_brT rfl rfl rfl rfl hc ?_
                refine rn_go 1 (pc' := 105) (l' := [(0, .int x0), (1, .int x1), (2, .int x2)]) (st' := [.int (0 : Int32)]) (S1 := (SH ++ X)) (V1 := V) rfl ?_
                obtain rfl := Option.some.inj h
                exact rn_ret rfl rfl rfl
              · refine rn_brF rfl rfl rfl rfl hc ?_
                refine rn_go 2 (pc' := 105) (l' := [(0, .int x0), (1, .int x1), (2, .int x2)]) (st' := [.int (1 : Int32)]) (S1 := (SH ++ X)) (V1 := V) rfl ?_
                obtain rfl := Option.some.inj h
                exact rn_ret rfl rfl rfl
            · refine rn_sw rfl rfl rfl rfl (ai_sel_f hs0 (ai_sel_f hs1 (ai_sel_f hs2 (ai_sel_f hs3 (ai_sel_f hs4 (ai_sel_f hs5 rfl)))))) ?_
              refine rn_go 2 (pc' := 108) (l' := [(0, .int x0), (1, .int x1), (2, .int x2)]) (st' := [.int x2, .int x1]) (S1 := (SH ++ X)) (V1 := V) rfl ?_
              rcases ai_if h with ⟨hc, h⟩ | ⟨hc, h⟩
              · refine rn_brT rfl rfl rfl rfl hc ?_
                refine rn_go 1 (pc' := 116) (l' := [(0, .int x0), (1, .int x1), (2, .int x2)]) (st' := [.int (0 : Int32)]) (S1 := (SH ++ X)) (V1 := V) rfl ?_
                obtain rfl := Option.some.inj h
                exact rn_ret rfl rfl rfl
              · refine rn_brF rfl rfl rfl rfl hc ?_
                refine rn_go 2 (pc' := 116) (l' := [(0, .int x0), (1, .int x1), (2, .int x2)]) (st' := [.int (1 : Int32)]) (S1 := (SH ++ X)) (V1 := V) rfl ?_
                obtain rfl := Option.some.inj h
                exact rn_ret rfl rfl rfl
-- RentByTheWheel$Rule.reckoned()I (10,)
def d_Rule_reckoned_196  (s0 : Int32) (V : ai_V) : Option (Int32 × ai_V) :=
  some ((ai_max (0 : Int32) (ai_min (99 : Int32) s0)), V)
set_option maxRecDepth 20000 in
theorem t_Rule_reckoned_196 {X : ai_S} {e : Nat} (hd : 1 ≤ e)  (s0 : Int32) (V : ai_V) (r : (Int32 × ai_V)) (h : d_Rule_reckoned_196  s0 V = some r) : Rn e 35 196 [] [.int s0] (SH ++ X) V (some (.int r.1)) (SH ++ X) r.2 := by
  rw [d_Rule_reckoned_196] at h
  refine rn_go 6 (pc' := 207) (l' := [(2, .int s0)]) (st' := [.int (ai_max (0 : Int32) (ai_min (99 : Int32) s0))]) (S1 := (SH ++ X)) (V1 := V) rfl ?_
  obtain rfl := Option.some.inj h
  exact rn_ret rfl rfl rfl
def d_Rule_reckoned_157 (F4 : Int32 → Int32 → ai_V → Option (Int32 × ai_V)) (x1 : Int32) (x2 : Int32) (V : ai_V) : Option (Int32 × ai_V) :=
  F4 x1 (x2 + (1 : Int32)) V
set_option maxRecDepth 20000 in
theorem t_Rule_reckoned_157 {X : ai_S} {e : Nat} (hd : 1 ≤ e) (F4 : Int32 → Int32 → ai_V → Option (Int32 × ai_V)) (hF4 : ∀ (x1 : Int32) (x2 : Int32) (V : ai_V) (r : (Int32 × ai_V)), F4 x1 x2 V = some r → Rn e 35 4 [(0, .ref 10), (1, .int x1), (2, .int x2)] [] (SH ++ X) V (some (.int r.1)) (SH ++ X) r.2) (x1 : Int32) (x2 : Int32) (V : ai_V) (r : (Int32 × ai_V)) (h : d_Rule_reckoned_157 F4 x1 x2 V = some r) : Rn e 35 157 [(0, .ref 10), (1, .int x1), (2, .int x2)] [] (SH ++ X) V (some (.int r.1)) (SH ++ X) r.2 := by
  rw [d_Rule_reckoned_157] at h
  refine rn_go 2 (pc' := 4) (l' := [(2, .int (x2 + (1 : Int32))), (0, .ref 10), (1, .int x1)]) (st' := []) (S1 := (SH ++ X)) (V1 := V) rfl ?_
  exact rn_sub [1, 2, 0] rfl rfl (hF4 x1 (x2 + (1 : Int32)) V _ h)
def d_Rule_reckoned_74 (F4 : Int32 → Int32 → ai_V → Option (Int32 × ai_V)) (x1 : Int32) (x2 : Int32) (s0 : Int32) (s1 : Int32) (V : ai_V) : Option (Int32 × ai_V) :=
  if ai_in s1 40 then (d_Rule_reckoned_157 F4 (x1 + (1 : Int32)) x2 (sa V 13 (s1).toNatClampNeg s0)) else none
set_option maxRecDepth 20000 in
theorem t_Rule_reckoned_74 {X : ai_S} {e : Nat} (hd : 1 ≤ e) (F4 : Int32 → Int32 → ai_V → Option (Int32 × ai_V)) (hF4 : ∀ (x1 : Int32) (x2 : Int32) (V : ai_V) (r : (Int32 × ai_V)), F4 x1 x2 V = some r → Rn e 35 4 [(0, .ref 10), (1, .int x1), (2, .int x2)] [] (SH ++ X) V (some (.int r.1)) (SH ++ X) r.2) (x1 : Int32) (x2 : Int32) (s0 : Int32) (s1 : Int32) (V : ai_V) (r : (Int32 × ai_V)) (h : d_Rule_reckoned_74 F4 x1 x2 s0 s1 V = some r) : Rn e 35 74 [(0, .ref 10), (1, .int x1), (2, .int x2)] [.int s0, .int s1, .ref 13] (SH ++ X) V (some (.int r.1)) (SH ++ X) r.2 := by
  rw [d_Rule_reckoned_74] at h
  obtain ⟨hg, h⟩ := ai_gd h
  refine rg_iast (n := 40) rfl rfl hg ?_
  refine rn_go 2 (pc' := 157) (l' := [(1, .int (x1 + (1 : Int32))), (0, .ref 10), (2, .int x2)]) (st' := []) (S1 := (SH ++ X)) (V1 := (sa V 13 (s1).toNatClampNeg s0)) rfl ?_
  exact rn_sub [1, 0, 2] rfl rfl (t_Rule_reckoned_157 (X := X) hd F4 hF4 (x1 + (1 : Int32)) x2 (sa V 13 (s1).toNatClampNeg s0) _ h)
def d_Rule_reckoned_60 (F4 : Int32 → Int32 → ai_V → Option (Int32 × ai_V)) (x1 : Int32) (x2 : Int32) (x3 : Int32) (s0 : Int32) (V : ai_V) : Option (Int32 × ai_V) :=
  d_Rule_reckoned_74 F4 x1 x2 x3 s0 V
set_option maxRecDepth 20000 in
theorem t_Rule_reckoned_60 {X : ai_S} {e : Nat} (hd : 1 ≤ e) (F4 : Int32 → Int32 → ai_V → Option (Int32 × ai_V)) (hF4 : ∀ (x1 : Int32) (x2 : Int32) (V : ai_V) (r : (Int32 × ai_V)), F4 x1 x2 V = some r → Rn e 35 4 [(0, .ref 10), (1, .int x1), (2, .int x2)] [] (SH ++ X) V (some (.int r.1)) (SH ++ X) r.2) (x1 : Int32) (x2 : Int32) (x3 : Int32) (s0 : Int32) (V : ai_V) (r : (Int32 × ai_V)) (h : d_Rule_reckoned_60 F4 x1 x2 x3 s0 V = some r) : Rn e 35 60 [(0, .ref 10), (1, .int x1), (2, .int x2), (3, .int x3)] [.int s0, .ref 13] (SH ++ X) V (some (.int r.1)) (SH ++ X) r.2 := by
  rw [d_Rule_reckoned_60] at h
  refine rn_go 2 (pc' := 74) (l' := [(0, .ref 10), (1, .int x1), (2, .int x2), (3, .int x3)]) (st' := [.int x3, .int s0, .ref 13]) (S1 := (SH ++ X)) (V1 := V) rfl ?_
  exact rn_sub [0, 1, 2] rfl rfl (t_Rule_reckoned_74 (X := X) hd F4 hF4 x1 x2 x3 s0 V _ h)
def d_Rule_reckoned_112 (F4 : Int32 → Int32 → ai_V → Option (Int32 × ai_V)) (x1 : Int32) (x2 : Int32) (x3 : Int32) (V : ai_V) : Option (Int32 × ai_V) :=
  if x3 ≤ (2000 : Int32) then (d_Rule_reckoned_157 F4 x1 x2 V) else (if x1 ≤ (1 : Int32) then (d_Rule_reckoned_157 F4 x1 x2 V) else (if ai_in ((x1 + (-1 : Int32)) - (1 : Int32)) 40 then (if ai_in (x1 + (-1 : Int32)) 40 then ((d_Rule_joined (x3 - (2000 : Int32)) (ga V 13 (((x1 + (-1 : Int32)) - (1 : Int32))).toNatClampNeg) (ga V 13 ((x1 + (-1 : Int32))).toNatClampNeg) V).bind fun q1 => (if ai_in ((x1 + (-1 : Int32)) - (1 : Int32)) 40 then (d_Rule_reckoned_157 F4 (x1 + (-1 : Int32)) x2 (sa V 13 (((x1 + (-1 : Int32)) - (1 : Int32))).toNatClampNeg q1)) else none)) else none) else none))
set_option maxRecDepth 20000 in
theorem t_Rule_reckoned_112 {X : ai_S} {e : Nat} (hd : 1 ≤ e) (F4 : Int32 → Int32 → ai_V → Option (Int32 × ai_V)) (hF4 : ∀ (x1 : Int32) (x2 : Int32) (V : ai_V) (r : (Int32 × ai_V)), F4 x1 x2 V = some r → Rn e 35 4 [(0, .ref 10), (1, .int x1), (2, .int x2)] [] (SH ++ X) V (some (.int r.1)) (SH ++ X) r.2) (x1 : Int32) (x2 : Int32) (x3 : Int32) (V : ai_V) (r : (Int32 × ai_V)) (h : d_Rule_reckoned_112 F4 x1 x2 x3 V = some r) : Rn e 35 112 [(0, .ref 10), (1, .int x1), (2, .int x2), (3, .int x3)] [] (SH ++ X) V (some (.int r.1)) (SH ++ X) r.2 := by
  rw [d_Rule_reckoned_112] at h
  refine rn_go 2 (pc' := 116) (l' := [(0, .ref 10), (1, .int x1), (2, .int x2), (3, .int x3)]) (st' := [.int (2000 : Int32), .int x3]) (S1 := (SH ++ X)) (V1 := V) rfl ?_
  rcases ai_if h with ⟨hc, h⟩ | ⟨hc, h⟩
  · refine rn_brT rfl rfl rfl rfl hc ?_
    exact rn_sub [0, 1, 2] rfl rfl (t_Rule_reckoned_157 (X := X) hd F4 hF4 x1 x2 V _ h)
  · refine rn_brF rfl rfl rfl rfl hc ?_
    refine rn_go 2 (pc' := 121) (l' := [(0, .ref 10), (1, .int x1), (2, .int x2), (3, .int x3)]) (st' := [.int (1 : Int32), .int x1]) (S1 := (SH ++ X)) (V1 := V) rfl ?_
    rcases ai_if h with ⟨hc, h⟩ | ⟨hc, h⟩
    · refine rn_brT rfl rfl rfl rfl hc ?_
      exact rn_sub [0, 1, 2] rfl rfl (t_Rule_reckoned_157 (X := X) hd F4 hF4 x1 x2 V _ h)
    · refine rn_brF rfl rfl rfl rfl hc ?_
      refine rn_go 14 (pc' := 146) (l' := [(1, .int (x1 + (-1 : Int32))), (0, .ref 10), (2, .int x2), (3, .int x3)]) (st' := [.int ((x1 + (-1 : Int32)) - (1 : Int32)), .ref 13, .int (x3 - (2000 : Int32)), .int ((x1 + (-1 : Int32)) - (1 : Int32)), .ref 13]) (S1 := (SH ++ X)) (V1 := V) rfl ?_
      obtain ⟨hg, h⟩ := ai_gd h
      refine rg_iald (n := 40) rfl rfl hg ?_
      refine rn_go 3 (pc' := 152) (l' := [(1, .int (x1 + (-1 : Int32))), (0, .ref 10), (2, .int x2), (3, .int x3)]) (st' := [.int (x1 + (-1 : Int32)), .ref 13, .int (ga V 13 (((x1 + (-1 : Int32)) - (1 : Int32))).toNatClampNeg), .int (x3 - (2000 : Int32)), .int ((x1 + (-1 : Int32)) - (1 : Int32)), .ref 13]) (S1 := (SH ++ X)) (V1 := V) rfl ?_
      obtain ⟨hg, h⟩ := ai_gd h
      refine rg_iald (n := 40) rfl rfl hg ?_
      obtain ⟨q1, hq1, h⟩ := ai_bd h
      refine rn_call rfl rfl rfl rfl rfl rfl (by omega) (t_Rule_joined (by omega) hq1) ?_
      obtain ⟨hg, h⟩ := ai_gd h
      refine rg_iast (n := 40) rfl rfl hg ?_
      exact rn_sub [1, 0, 2] rfl rfl (t_Rule_reckoned_157 (X := X) hd F4 hF4 (x1 + (-1 : Int32)) x2 (sa V 13 (((x1 + (-1 : Int32)) - (1 : Int32))).toNatClampNeg q1) _ h)
def d_Rule_reckoned_81 (F4 : Int32 → Int32 → ai_V → Option (Int32 × ai_V)) (x1 : Int32) (x2 : Int32) (x3 : Int32) (V : ai_V) : Option (Int32 × ai_V) :=
  if ¬ x3 = (2126 : Int32) then (d_Rule_reckoned_112 F4 x1 x2 x3 V) else (if x1 ≤ 0 then (d_Rule_reckoned_112 F4 x1 x2 x3 V) else (if ai_in (x1 - (1 : Int32)) 40 then (if ai_in (x1 - (1 : Int32)) 40 then (d_Rule_reckoned_157 F4 x1 x2 (sa V 13 ((x1 - (1 : Int32))).toNatClampNeg (-(ga V 13 ((x1 - (1 : Int32))).toNatClampNeg)))) else none) else none))
set_option maxRecDepth 20000 in
theorem t_Rule_reckoned_81 {X : ai_S} {e : Nat} (hd : 1 ≤ e) (F4 : Int32 → Int32 → ai_V → Option (Int32 × ai_V)) (hF4 : ∀ (x1 : Int32) (x2 : Int32) (V : ai_V) (r : (Int32 × ai_V)), F4 x1 x2 V = some r → Rn e 35 4 [(0, .ref 10), (1, .int x1), (2, .int x2)] [] (SH ++ X) V (some (.int r.1)) (SH ++ X) r.2) (x1 : Int32) (x2 : Int32) (x3 : Int32) (V : ai_V) (r : (Int32 × ai_V)) (h : d_Rule_reckoned_81 F4 x1 x2 x3 V = some r) : Rn e 35 81 [(0, .ref 10), (1, .int x1), (2, .int x2), (3, .int x3)] [] (SH ++ X) V (some (.int r.1)) (SH ++ X) r.2 := by
  rw [d_Rule_reckoned_81] at h
  refine rn_go 2 (pc' := 85) (l' := [(0, .ref 10), (1, .int x1), (2, .int x2), (3, .int x3)]) (st' := [.int (2126 : Int32), .int x3]) (S1 := (SH ++ X)) (V1 := V) rfl ?_
  rcases ai_if h with ⟨hc, h⟩ | ⟨hc, h⟩
  · refine rn_brT rfl rfl rfl rfl hc ?_
    exact rn_sub [0, 1, 2, 3] rfl rfl (t_Rule_reckoned_112 (X := X) hd F4 hF4 x1 x2 x3 V _ h)
  · refine rn_brF rfl rfl rfl rfl hc ?_
    refine rn_go 1 (pc' := 89) (l' := [(0, .ref 10), (1, .int x1), (2, .int x2), (3, .int x3)]) (st' := [.int x1]) (S1 := (SH ++ X)) (V1 := V) rfl ?_
    rcases ai_if h with ⟨hc, h⟩ | ⟨hc, h⟩
    · refine rn_brT rfl rfl rfl rfl hc ?_
      exact rn_sub [0, 1, 2, 3] rfl rfl (t_Rule_reckoned_112 (X := X) hd F4 hF4 x1 x2 x3 V _ h)
    · refine rn_brF rfl rfl rfl rfl hc ?_
      refine rn_go 10 (pc' := 106) (l' := [(0, .ref 10), (1, .int x1), (2, .int x2), (3, .int x3)]) (st' := [.int (x1 - (1 : Int32)), .ref 13, .int (x1 - (1 : Int32)), .ref 13]) (S1 := (SH ++ X)) (V1 := V) rfl ?_
      obtain ⟨hg, h⟩ := ai_gd h
      refine rg_iald (n := 40) rfl rfl hg ?_
      refine rn_go 1 (pc' := 108) (l' := [(0, .ref 10), (1, .int x1), (2, .int x2), (3, .int x3)]) (st' := [.int (-(ga V 13 ((x1 - (1 : Int32))).toNatClampNeg)), .int (x1 - (1 : Int32)), .ref 13]) (S1 := (SH ++ X)) (V1 := V) rfl ?_
      obtain ⟨hg, h⟩ := ai_gd h
      refine rg_iast (n := 40) rfl rfl hg ?_
      refine rn_go 1 (pc' := 157) (l' := [(0, .ref 10), (1, .int x1), (2, .int x2), (3, .int x3)]) (st' := []) (S1 := (SH ++ X)) (V1 := (sa V 13 ((x1 - (1 : Int32))).toNatClampNeg (-(ga V 13 ((x1 - (1 : Int32))).toNatClampNeg)))) rfl ?_
      exact rn_sub [0, 1, 2] rfl rfl (t_Rule_reckoned_157 (X := X) hd F4 hF4 x1 x2 (sa V 13 ((x1 - (1 : Int32))).toNatClampNeg (-(ga V 13 ((x1 - (1 : Int32))).toNatClampNeg))) _ h)
def d_Rule_reckoned_4  : Nat → Int32 → Int32 → ai_V → Option (Int32 × ai_V)
  | 0, _, _, _ => none
  | n + 1, x1, x2, V => if (gi V 10 1) ≤ x2 then (if ¬ (gi V 10 1) = 0 then (d_Rule_reckoned_196 (ga V 13 ((0 : Int32)).toNatClampNeg) V) else (d_Rule_reckoned_196 (((ga V 12 ((0 : Int32)).toNatClampNeg) * ((ga V 12 ((2 : Int32)).toNatClampNeg) + (1 : Int32))) / (4 : Int32)) V)) else (if ai_in x2 40 then (if (2000 : Int32) ≤ (ga V 11 (x2).toNatClampNeg) then (d_Rule_reckoned_81 (d_Rule_reckoned_4 n) x1 x2 (ga V 11 (x2).toNatClampNeg) V) else (if (Int32.ofNat 40) ≤ x1 then (d_Rule_reckoned_81 (d_Rule_reckoned_4 n) x1 x2 (ga V 11 (x2).toNatClampNeg) V) else (if (ga V 11 (x2).toNatClampNeg) < (1000 : Int32) then (d_Rule_reckoned_60 (d_Rule_reckoned_4 n) x1 x2 (ga V 11 (x2).toNatClampNeg) x1 V) else (if ((ga V 11 (x2).toNatClampNeg) - (1000 : Int32)) < (Int32.ofNat 7) then (if ai_in ((ga V 11 (x2).toNatClampNeg) - (1000 : Int32)) 7 then (d_Rule_reckoned_74 (d_Rule_reckoned_4 n) x1 x2 (ga V 12 (((ga V 11 (x2).toNatClampNeg) - (1000 : Int32))).toNatClampNeg) x1 V) else none) else (d_Rule_reckoned_60 (d_Rule_reckoned_4 n) x1 x2 (ga V 11 (x2).toNatClampNeg) x1 V))))) else none)
set_option maxRecDepth 20000 in
theorem t_Rule_reckoned_4 {X : ai_S} {e : Nat} (hd : 1 ≤ e)  : ∀ (n : Nat) (x1 : Int32) (x2 : Int32) (V : ai_V) (r : (Int32 × ai_V)), d_Rule_reckoned_4  n x1 x2 V = some r → Rn e 35 4 [(0, .ref 10), (1, .int x1), (2, .int x2)] [] (SH ++ X) V (some (.int r.1)) (SH ++ X) r.2 := by
  intro n
  induction n with
  | zero =>
    intro x1 x2 V r h
    cases h
  | succ n ih =>
    intro x1 x2 V r h
    rw [d_Rule_reckoned_4] at h
    refine rn_go 3 (pc' := 9) (l' := [(0, .ref 10), (1, .int x1), (2, .int x2)]) (st' := [.int (gi V 10 1), .int x2]) (S1 := (SH ++ X)) (V1 := V) rfl ?_
    rcases ai_if h with ⟨hc, h⟩ | ⟨hc, h⟩
    · refine rn_brT rfl rfl rfl rfl hc ?_
      refine rn_go 2 (pc' := 167) (l' := [(0, .ref 10), (1, .int x1), (2, .int x2)]) (st' := [.int (gi V 10 1)]) (S1 := (SH ++ X)) (V1 := V) rfl ?_
      rcases ai_if h with ⟨hc, h⟩ | ⟨hc, h⟩
      · refine rn_brT rfl rfl rfl rfl hc ?_
        refine rn_go 3 (pc' := 195) (l' := [(0, .ref 10), (1, .int x1), (2, .int x2)]) (st' := [.int (0 : Int32), .ref 13]) (S1 := (SH ++ X)) (V1 := V) rfl ?_
        refine rg_iald (n := 40) rfl rfl (by decide) ?_
        exact rn_sub [] rfl rfl (t_Rule_reckoned_196 (X := X) hd (ga V 13 ((0 : Int32)).toNatClampNeg) V _ h)
      · refine rn_brF rfl rfl rfl rfl hc ?_
        refine rn_go 3 (pc' := 175) (l' := [(0, .ref 10), (1, .int x1), (2, .int x2)]) (st' := [.int (0 : Int32), .ref 12]) (S1 := (SH ++ X)) (V1 := V) rfl ?_
        refine rg_iald (n := 7) rfl rfl (by decide) ?_
        refine rn_go 3 (pc' := 181) (l' := [(0, .ref 10), (1, .int x1), (2, .int x2)]) (st' := [.int (2 : Int32), .ref 12, .int (ga V 12 ((0 : Int32)).toNatClampNeg)]) (S1 := (SH ++ X)) (V1 := V) rfl ?_
        refine rg_iald (n := 7) rfl rfl (by decide) ?_
        refine rn_go 4 (pc' := 186) (l' := [(0, .ref 10), (1, .int x1), (2, .int x2)]) (st' := [.int (4 : Int32), .int ((ga V 12 ((0 : Int32)).toNatClampNeg) * ((ga V 12 ((2 : Int32)).toNatClampNeg) + (1 : Int32)))]) (S1 := (SH ++ X)) (V1 := V) rfl ?_
        refine rg_idiv rfl (by decide) ?_
        refine rn_go 1 (pc' := 196) (l' := [(0, .ref 10), (1, .int x1), (2, .int x2)]) (st' := [.int (((ga V 12 ((0 : Int32)).toNatClampNeg) * ((ga V 12 ((2 : Int32)).toNatClampNeg) + (1 : Int32))) / (4 : Int32))]) (S1 := (SH ++ X)) (V1 := V) rfl ?_
        exact rn_sub [] rfl rfl (t_Rule_reckoned_196 (X := X) hd (((ga V 12 ((0 : Int32)).toNatClampNeg) * ((ga V 12 ((2 : Int32)).toNatClampNeg) + (1 : Int32))) / (4 : Int32)) V _ h)
    · refine rn_brF rfl rfl rfl rfl hc ?_
      refine rn_go 3 (pc' := 17) (l' := [(0, .ref 10), (1, .int x1), (2, .int x2)]) (st' := [.int x2, .ref 11]) (S1 := (SH ++ X)) (V1 := V) rfl ?_
      obtain ⟨hg, h⟩ := ai_gd h
      refine rg_iald (n := 40) rfl rfl hg ?_
      refine rn_go 3 (pc' := 23) (l' := [(3, .int (ga V 11 (x2).toNatClampNeg)), (0, .ref 10), (1, .int x1), (2, .int x2)]) (st' := [.int (2000 : Int32), .int (ga V 11 (x2).toNatClampNeg)]) (S1 := (SH ++ X)) (V1 := V) rfl ?_
      rcases ai_if h with ⟨hc, h⟩ | ⟨hc, h⟩
      · refine rn_brT rfl rfl rfl rfl hc ?_
        exact rn_sub [1, 2, 3, 0] rfl rfl (t_Rule_reckoned_81 (X := X) hd (d_Rule_reckoned_4 n) (ih) x1 x2 (ga V 11 (x2).toNatClampNeg) V _ h)
      · refine rn_brF rfl rfl rfl rfl hc ?_
        refine rn_go 4 (pc' := 32) (l' := [(3, .int (ga V 11 (x2).toNatClampNeg)), (0, .ref 10), (1, .int x1), (2, .int x2)]) (st' := [.int (Int32.ofNat 40), .int x1]) (S1 := (SH ++ X)) (V1 := V) rfl ?_
        rcases ai_if h with ⟨hc, h⟩ | ⟨hc, h⟩
        · refine rn_brT rfl rfl rfl rfl hc ?_
          exact rn_sub [1, 2, 3, 0] rfl rfl (t_Rule_reckoned_81 (X := X) hd (d_Rule_reckoned_4 n) (ih) x1 x2 (ga V 11 (x2).toNatClampNeg) V _ h)
        · refine rn_brF rfl rfl rfl rfl hc ?_
          refine rn_go 5 (pc' := 44) (l' := [(3, .int (ga V 11 (x2).toNatClampNeg)), (0, .ref 10), (1, .int x1), (2, .int x2)]) (st' := [.int (1000 : Int32), .int (ga V 11 (x2).toNatClampNeg), .int x1, .ref 13]) (S1 := (SH ++ X)) (V1 := V) rfl ?_
          rcases ai_if h with ⟨hc, h⟩ | ⟨hc, h⟩
          · refine rn_brT rfl rfl rfl rfl hc ?_
            exact rn_sub [1, 2, 3, 0] rfl rfl (t_Rule_reckoned_60 (X := X) hd (d_Rule_reckoned_4 n) (ih) x1 x2 (ga V 11 (x2).toNatClampNeg) x1 V _ h)
          · refine rn_brF rfl rfl rfl rfl hc ?_
            refine rn_go 6 (pc' := 57) (l' := [(3, .int (ga V 11 (x2).toNatClampNeg)), (0, .ref 10), (1, .int x1), (2, .int x2)]) (st' := [.int (Int32.ofNat 7), .int ((ga V 11 (x2).toNatClampNeg) - (1000 : Int32)), .int x1, .ref 13]) (S1 := (SH ++ X)) (V1 := V) rfl ?_
            rcases ai_if h with ⟨hc, h⟩ | ⟨hc, h⟩
            · refine rn_brT rfl rfl rfl rfl hc ?_
              refine rn_go 5 (pc' := 73) (l' := [(3, .int (ga V 11 (x2).toNatClampNeg)), (0, .ref 10), (1, .int x1), (2, .int x2)]) (st' := [.int ((ga V 11 (x2).toNatClampNeg) - (1000 : Int32)), .ref 12, .int x1, .ref 13]) (S1 := (SH ++ X)) (V1 := V) rfl ?_
              obtain ⟨hg, h⟩ := ai_gd h
              refine rg_iald (n := 7) rfl rfl hg ?_
              exact rn_sub [1, 2, 3] rfl rfl (t_Rule_reckoned_74 (X := X) hd (d_Rule_reckoned_4 n) (ih) x1 x2 (ga V 12 (((ga V 11 (x2).toNatClampNeg) - (1000 : Int32))).toNatClampNeg) x1 V _ h)
            · refine rn_brF rfl rfl rfl rfl hc ?_
              exact rn_sub [1, 2, 3, 0] rfl rfl (t_Rule_reckoned_60 (X := X) hd (d_Rule_reckoned_4 n) (ih) x1 x2 (ga V 11 (x2).toNatClampNeg) x1 V _ h)
def d_Rule_reckoned  (V : ai_V) : Option (Int32 × ai_V) :=
  d_Rule_reckoned_4 ai_N (0 : Int32) (0 : Int32) V
set_option maxRecDepth 20000 in
theorem t_Rule_reckoned {X : ai_S} {e : Nat} (hd : 1 ≤ e)  {V : ai_V} {r : (Int32 × ai_V)} (h : d_Rule_reckoned  V = some r) : Rn e 35 0 (lv_args 0 [.ref 10]) [] (SH ++ X) V (some (.int r.1)) (SH ++ X) r.2 := by
  rw [d_Rule_reckoned] at h
  refine rn_go 4 (pc' := 4) (l' := [(2, .int (0 : Int32)), (1, .int (0 : Int32)), (0, .ref 10)]) (st' := []) (S1 := (SH ++ X)) (V1 := V) rfl ?_
  exact rn_sub [2, 1, 0] rfl rfl (t_Rule_reckoned_4 (X := X) hd ai_N (0 : Int32) (0 : Int32) V _ h)
-- RentByTheWheel$Wheel.pails(IIIII)I (15, None, None, None, None, None)
def d_Wheel_pails_89  (x1 : Int32) (x4 : Int32) (s0 : Int32) (s1 : Int32) (V : ai_V) : Option (Int32 × ai_V) :=
  if ai_in s1 7 then (if ai_in x1 6 then ((d_Rule_reckoned  (sa (sa (sa V 12 (s1).toNatClampNeg s0) 12 ((5 : Int32)).toNatClampNeg x4) 12 ((6 : Int32)).toNatClampNeg (ga (sa (sa V 12 (s1).toNatClampNeg s0) 12 ((5 : Int32)).toNatClampNeg x4) 4 (x1).toNatClampNeg))).bind fun q1 => (some (q1.1, q1.2))) else none) else none
set_option maxRecDepth 20000 in
theorem t_Wheel_pails_89 {X : ai_S} {e : Nat} (hd : 2 ≤ e)  (x1 : Int32) (x4 : Int32) (s0 : Int32) (s1 : Int32) (V : ai_V) (r : (Int32 × ai_V)) (h : d_Wheel_pails_89  x1 x4 s0 s1 V = some r) : Rn e 36 89 [(0, .ref 15), (1, .int x1), (4, .int x4), (6, .ref 12)] [.int s0, .int s1, .ref 12] (SH ++ X) V (some (.int r.1)) (SH ++ X) r.2 := by
  rw [d_Wheel_pails_89] at h
  obtain ⟨hg, h⟩ := ai_gd h
  refine rg_iast (n := 7) rfl rfl hg ?_
  refine rn_go 3 (pc' := 95) (l' := [(0, .ref 15), (1, .int x1), (4, .int x4), (6, .ref 12)]) (st' := [.int x4, .int (5 : Int32), .ref 12]) (S1 := (SH ++ X)) (V1 := (sa V 12 (s1).toNatClampNeg s0)) rfl ?_
  refine rg_iast (n := 7) rfl rfl (by decide) ?_
  refine rn_go 6 (pc' := 108) (l' := [(0, .ref 15), (1, .int x1), (4, .int x4), (6, .ref 12)]) (st' := [.int x1, .ref 4, .int (6 : Int32), .ref 12]) (S1 := (SH ++ X)) (V1 := (sa (sa V 12 (s1).toNatClampNeg s0) 12 ((5 : Int32)).toNatClampNeg x4)) rfl ?_
  obtain ⟨hg, h⟩ := ai_gd h
  refine rg_iald (n := 6) rfl rfl hg ?_
  refine rg_iast (n := 7) rfl rfl (by decide) ?_
  refine rn_go 2 (pc' := 114) (l' := [(0, .ref 15), (1, .int x1), (4, .int x4), (6, .ref 12)]) (st' := [.ref 10]) (S1 := (SH ++ X)) (V1 := (sa (sa (sa V 12 (s1).toNatClampNeg s0) 12 ((5 : Int32)).toNatClampNeg x4) 12 ((6 : Int32)).toNatClampNeg (ga (sa (sa V 12 (s1).toNatClampNeg s0) 12 ((5 : Int32)).toNatClampNeg x4) 4 (x1).toNatClampNeg))) rfl ?_
  obtain ⟨q1, hq1, h⟩ := ai_bd h
  refine rn_call rfl rfl rfl rfl rfl rfl (by omega) (t_Rule_reckoned (by omega) hq1) ?_
  obtain rfl := Option.some.inj h
  exact rn_ret rfl rfl rfl
def d_Wheel_pails (x1 : Int32) (x2 : Int32) (x3 : Int32) (x4 : Int32) (x5 : Int32) (V : ai_V) : Option (Int32 × ai_V) :=
  (d_House_has x1 V).bind fun q2 => (if q2 = 0 then (some ((0 : Int32), V)) else (if ¬ ((x5 >>> (x1 &&& 31)) &&& (1 : Int32)) = (1 : Int32) then ((d_House_turnsOf x1 x2 V).bind fun q3 => (if ai_in x1 6 then (if ai_in x1 6 then (if ¬ x2 = (-1 : Int32) then (d_Wheel_pails_89 x1 x4 (2 : Int32) (4 : Int32) (sa (sa (sa (sa V 12 ((0 : Int32)).toNatClampNeg q3) 12 ((1 : Int32)).toNatClampNeg (ga (sa V 12 ((0 : Int32)).toNatClampNeg q3) 5 (x1).toNatClampNeg)) 12 ((2 : Int32)).toNatClampNeg (ga (sa (sa V 12 ((0 : Int32)).toNatClampNeg q3) 12 ((1 : Int32)).toNatClampNeg (ga (sa V 12 ((0 : Int32)).toNatClampNeg q3) 5 (x1).toNatClampNeg)) 6 (x1).toNatClampNeg)) 12 ((3 : Int32)).toNatClampNeg x3)) else (d_Wheel_pails_89 x1 x4 (1 : Int32) (4 : Int32) (sa (sa (sa (sa V 12 ((0 : Int32)).toNatClampNeg q3) 12 ((1 : Int32)).toNatClampNeg (ga (sa V 12 ((0 : Int32)).toNatClampNeg q3) 5 (x1).toNatClampNeg)) 12 ((2 : Int32)).toNatClampNeg (ga (sa (sa V 12 ((0 : Int32)).toNatClampNeg q3) 12 ((1 : Int32)).toNatClampNeg (ga (sa V 12 ((0 : Int32)).toNatClampNeg q3) 5 (x1).toNatClampNeg)) 6 (x1).toNatClampNeg)) 12 ((3 : Int32)).toNatClampNeg x3))) else none) else none)) else (some ((0 : Int32), V))))
set_option maxRecDepth 20000 in
theorem t_Wheel_pails {X : ai_S} {e : Nat} (hd : 2 ≤ e) {x1 : Int32} {x2 : Int32} {x3 : Int32} {x4 : Int32} {x5 : Int32} {V : ai_V} {r : (Int32 × ai_V)} (h : d_Wheel_pails x1 x2 x3 x4 x5 V = some r) : Rn e 36 0 (lv_args 0 [.ref 15, .int x1, .int x2, .int x3, .int x4, .int x5]) [] (SH ++ X) V (some (.int r.1)) (SH ++ X) r.2 := by
  rw [d_Wheel_pails] at h
  refine rn_go 3 (pc' := 5) (l' := [(0, .ref 15), (1, .int x1), (2, .int x2), (3, .int x3), (4, .int x4), (5, .int x5)]) (st' := [.int x1, .ref 3]) (S1 := (SH ++ X)) (V1 := V) rfl ?_
  obtain ⟨q2, hq2, h⟩ := ai_bd h
  refine rn_call rfl rfl rfl rfl rfl rfl (by omega) (t_House_has (by omega) hq2) ?_
  rcases ai_if h with ⟨hc, h⟩ | ⟨hc, h⟩
  · refine rn_brT rfl rfl rfl rfl hc ?_
    refine rn_go 1 (pc' := 22) (l' := [(0, .ref 15), (1, .int x1), (2, .int x2), (3, .int x3), (4, .int x4), (5, .int x5)]) (st' := [.int (0 : Int32)]) (S1 := (SH ++ X)) (V1 := V) rfl ?_
    obtain rfl := Option.some.inj h
    exact rn_ret rfl rfl rfl
  · refine rn_brF rfl rfl rfl rfl hc ?_
    refine rn_go 6 (pc' := 18) (l' := [(0, .ref 15), (1, .int x1), (2, .int x2), (3, .int x3), (4, .int x4), (5, .int x5)]) (st' := [.int (1 : Int32), .int ((x5 >>> (x1 &&& 31)) &&& (1 : Int32))]) (S1 := (SH ++ X)) (V1 := V) rfl ?_
    rcases ai_if h with ⟨hc, h⟩ | ⟨hc, h⟩
    · refine rn_brT rfl rfl rfl rfl hc ?_
      refine rn_go 10 (pc' := 41) (l' := [(6, .ref 12), (0, .ref 15), (1, .int x1), (2, .int x2), (3, .int x3), (4, .int x4), (5, .int x5)]) (st' := [.int x2, .int x1, .ref 3, .int (0 : Int32), .ref 12]) (S1 := (SH ++ X)) (V1 := V) rfl ?_
      obtain ⟨q3, hq3, h⟩ := ai_bd h
      refine rn_call rfl rfl rfl rfl rfl rfl (by omega) (t_House_turnsOf (by omega) hq3) ?_
      refine rg_iast (n := 7) rfl rfl (by decide) ?_
      refine rn_go 6 (pc' := 56) (l' := [(6, .ref 12), (0, .ref 15), (1, .int x1), (2, .int x2), (3, .int x3), (4, .int x4), (5, .int x5)]) (st' := [.int x1, .ref 5, .int (1 : Int32), .ref 12]) (S1 := (SH ++ X)) (V1 := (sa V 12 ((0 : Int32)).toNatClampNeg q3)) rfl ?_
      obtain ⟨hg, h⟩ := ai_gd h
      refine rg_iald (n := 6) rfl rfl hg ?_
      refine rg_iast (n := 7) rfl rfl (by decide) ?_
      refine rn_go 6 (pc' := 69) (l' := [(6, .ref 12), (0, .ref 15), (1, .int x1), (2, .int x2), (3, .int x3), (4, .int x4), (5, .int x5)]) (st' := [.int x1, .ref 6, .int (2 : Int32), .ref 12]) (S1 := (SH ++ X)) (V1 := (sa (sa V 12 ((0 : Int32)).toNatClampNeg q3) 12 ((1 : Int32)).toNatClampNeg (ga (sa V 12 ((0 : Int32)).toNatClampNeg q3) 5 (x1).toNatClampNeg))) rfl ?_
      obtain ⟨hg, h⟩ := ai_gd h
      refine rg_iald (n := 6) rfl rfl hg ?_
      refine rg_iast (n := 7) rfl rfl (by decide) ?_
      refine rn_go 3 (pc' := 75) (l' := [(6, .ref 12), (0, .ref 15), (1, .int x1), (2, .int x2), (3, .int x3), (4, .int x4), (5, .int x5)]) (st' := [.int x3, .int (3 : Int32), .ref 12]) (S1 := (SH ++ X)) (V1 := (sa (sa (sa V 12 ((0 : Int32)).toNatClampNeg q3) 12 ((1 : Int32)).toNatClampNeg (ga (sa V 12 ((0 : Int32)).toNatClampNeg q3) 5 (x1).toNatClampNeg)) 12 ((2 : Int32)).toNatClampNeg (ga (sa (sa V 12 ((0 : Int32)).toNatClampNeg q3) 12 ((1 : Int32)).toNatClampNeg (ga (sa V 12 ((0 : Int32)).toNatClampNeg q3) 5 (x1).toNatClampNeg)) 6 (x1).toNatClampNeg))) rfl ?_
      refine rg_iast (n := 7) rfl rfl (by decide) ?_
      refine rn_go 4 (pc' := 81) (l' := [(6, .ref 12), (0, .ref 15), (1, .int x1), (2, .int x2), (3, .int x3), (4, .int x4), (5, .int x5)]) (st' := [.int (-1 : Int32), .int x2, .int (4 : Int32), .ref 12]) (S1 := (SH ++ X)) (V1 := (sa (sa (sa (sa V 12 ((0 : Int32)).toNatClampNeg q3) 12 ((1 : Int32)).toNatClampNeg (ga (sa V 12 ((0 : Int32)).toNatClampNeg q3) 5 (x1).toNatClampNeg)) 12 ((2 : Int32)).toNatClampNeg (ga (sa (sa V 12 ((0 : Int32)).toNatClampNeg q3) 12 ((1 : Int32)).toNatClampNeg (ga (sa V 12 ((0 : Int32)).toNatClampNeg q3) 5 (x1).toNatClampNeg)) 6 (x1).toNatClampNeg)) 12 ((3 : Int32)).toNatClampNeg x3)) rfl ?_
      rcases ai_if h with ⟨hc, h⟩ | ⟨hc, h⟩
      · refine rn_brT rfl rfl rfl rfl hc ?_
        refine rn_go 1 (pc' := 89) (l' := [(6, .ref 12), (0, .ref 15), (1, .int x1), (2, .int x2), (3, .int x3), (4, .int x4), (5, .int x5)]) (st' := [.int (2 : Int32), .int (4 : Int32), .ref 12]) (S1 := (SH ++ X)) (V1 := (sa (sa (sa (sa V 12 ((0 : Int32)).toNatClampNeg q3) 12 ((1 : Int32)).toNatClampNeg (ga (sa V 12 ((0 : Int32)).toNatClampNeg q3) 5 (x1).toNatClampNeg)) 12 ((2 : Int32)).toNatClampNeg (ga (sa (sa V 12 ((0 : Int32)).toNatClampNeg q3) 12 ((1 : Int32)).toNatClampNeg (ga (sa V 12 ((0 : Int32)).toNatClampNeg q3) 5 (x1).toNatClampNeg)) 6 (x1).toNatClampNeg)) 12 ((3 : Int32)).toNatClampNeg x3)) rfl ?_
        exact rn_sub [1, 2, 5, 0] rfl rfl (t_Wheel_pails_89 (X := X) hd x1 x4 (2 : Int32) (4 : Int32) (sa (sa (sa (sa V 12 ((0 : Int32)).toNatClampNeg q3) 12 ((1 : Int32)).toNatClampNeg (ga (sa V 12 ((0 : Int32)).toNatClampNeg q3) 5 (x1).toNatClampNeg)) 12 ((2 : Int32)).toNatClampNeg (ga (sa (sa V 12 ((0 : Int32)).toNatClampNeg q3) 12 ((1 : Int32)).toNatClampNeg (ga (sa V 12 ((0 : Int32)).toNatClampNeg q3) 5 (x1).toNatClampNeg)) 6 (x1).toNatClampNeg)) 12 ((3 : Int32)).toNatClampNeg x3) _ h)
      · refine rn_brF rfl rfl rfl rfl hc ?_
        refine rn_go 2 (pc' := 89) (l' := [(6, .ref 12), (0, .ref 15), (1, .int x1), (2, .int x2), (3, .int x3), (4, .int x4), (5, .int x5)]) (st' := [.int (1 : Int32), .int (4 : Int32), .ref 12]) (S1 := (SH ++ X)) (V1 := (sa (sa (sa (sa V 12 ((0 : Int32)).toNatClampNeg q3) 12 ((1 : Int32)).toNatClampNeg (ga (sa V 12 ((0 : Int32)).toNatClampNeg q3) 5 (x1).toNatClampNeg)) 12 ((2 : Int32)).toNatClampNeg (ga (sa (sa V 12 ((0 : Int32)).toNatClampNeg q3) 12 ((1 : Int32)).toNatClampNeg (ga (sa V 12 ((0 : Int32)).toNatClampNeg q3) 5 (x1).toNatClampNeg)) 6 (x1).toNatClampNeg)) 12 ((3 : Int32)).toNatClampNeg x3)) rfl ?_
        exact rn_sub [1, 2, 5, 0] rfl rfl (t_Wheel_pails_89 (X := X) hd x1 x4 (1 : Int32) (4 : Int32) (sa (sa (sa (sa V 12 ((0 : Int32)).toNatClampNeg q3) 12 ((1 : Int32)).toNatClampNeg (ga (sa V 12 ((0 : Int32)).toNatClampNeg q3) 5 (x1).toNatClampNeg)) 12 ((2 : Int32)).toNatClampNeg (ga (sa (sa V 12 ((0 : Int32)).toNatClampNeg q3) 12 ((1 : Int32)).toNatClampNeg (ga (sa V 12 ((0 : Int32)).toNatClampNeg q3) 5 (x1).toNatClampNeg)) 6 (x1).toNatClampNeg)) 12 ((3 : Int32)).toNatClampNeg x3) _ h)
    · refine rn_brF rfl rfl rfl rfl hc ?_
      refine rn_go 1 (pc' := 22) (l' := [(0, .ref 15), (1, .int x1), (2, .int x2), (3, .int x3), (4, .int x4), (5, .int x5)]) (st' := [.int (0 : Int32)]) (S1 := (SH ++ X)) (V1 := V) rfl ?_
      obtain rfl := Option.some.inj h
      exact rn_ret rfl rfl rfl
-- RentByTheWheel$Wheel.pailsNow(IILRentByTheWheel$State;)I (15, None, None, 16)
def d_Wheel_pailsNow (x1 : Int32) (x2 : Int32) (V : ai_V) : Option (Int32 × ai_V) :=
  (d_State_quarterNow  V).bind fun q1 => ((d_Wheel_pails x1 x2 (gi V 16 1) q1 (gi V 3 2) V).bind fun q2 => (some (q2.1, q2.2)))
set_option maxRecDepth 20000 in
theorem t_Wheel_pailsNow {X : ai_S} {e : Nat} (hd : 3 ≤ e) {x1 : Int32} {x2 : Int32} {V : ai_V} {r : (Int32 × ai_V)} (h : d_Wheel_pailsNow x1 x2 V = some r) : Rn e 37 0 (lv_args 0 [.ref 15, .int x1, .int x2, .ref 16]) [] (SH ++ X) V (some (.int r.1)) (SH ++ X) r.2 := by
  rw [d_Wheel_pailsNow] at h
  refine rn_go 6 (pc' := 8) (l' := [(0, .ref 15), (1, .int x1), (2, .int x2), (3, .ref 16)]) (st' := [.ref 16, .int (gi V 16 1), .int x2, .int x1, .ref 15]) (S1 := (SH ++ X)) (V1 := V) rfl ?_
  obtain ⟨q1, hq1, h⟩ := ai_bd h
  refine rn_call rfl rfl rfl rfl rfl rfl (by omega) (t_State_quarterNow (by omega) hq1) ?_
  refine rn_go 3 (pc' := 18) (l' := [(0, .ref 15), (1, .int x1), (2, .int x2), (3, .ref 16)]) (st' := [.int (gi V 3 2), .int q1, .int (gi V 16 1), .int x2, .int x1, .ref 15]) (S1 := (SH ++ X)) (V1 := V) rfl ?_
  obtain ⟨q2, hq2, h⟩ := ai_bd h
  refine rn_call rfl rfl rfl rfl rfl rfl (by omega) (t_Wheel_pails (by omega) hq2) ?_
  obtain rfl := Option.some.inj h
  exact rn_ret rfl rfl rfl
-- RentByTheWheel$Row.clear()V (22,)
def d_Row_clear  (V : ai_V) : Option ai_V :=
  some (si V 22 1 (0 : Int32))
set_option maxRecDepth 20000 in
theorem t_Row_clear {X : ai_S} {e : Nat} (hd : 0 ≤ e)  {V : ai_V} {r : ai_V} (h : d_Row_clear  V = some r) : Rn e 59 0 (lv_args 0 [.ref 22]) [] (SH ++ X) V none (SH ++ X) r := by
  rw [d_Row_clear] at h
  refine rn_go 3 (pc' := 5) (l' := [(0, .ref 22)]) (st' := []) (S1 := (SH ++ X)) (V1 := (si V 22 1 (0 : Int32))) rfl ?_
  obtain rfl := Option.some.inj h
  exact rn_ret rfl rfl rfl
-- RentByTheWheel$Row.add(J)V (22, None)
def d_Row_add (x1 : Int64) (V : ai_V) : Option ai_V :=
  if (Int32.ofNat 12) ≤ (gi V 22 1) then (some V) else (if ai_in (gi V 22 1) 12 then (some (si (sl V 23 ((gi V 22 1)).toNatClampNeg x1) 22 1 ((gi (sl V 23 ((gi V 22 1)).toNatClampNeg x1) 22 1) + (1 : Int32)))) else none)
set_option maxRecDepth 20000 in
theorem t_Row_add {X : ai_S} {e : Nat} (hd : 0 ≤ e) {x1 : Int64} {V : ai_V} {r : ai_V} (h : d_Row_add x1 V = some r) : Rn e 60 0 (lv_args 0 [.ref 22, .long x1]) [] (SH ++ X) V none (SH ++ X) r := by
  rw [d_Row_add] at h
  refine rn_go 5 (pc' := 9) (l' := [(0, .ref 22), (1, .long x1)]) (st' := [.int (Int32.ofNat 12), .int (gi V 22 1)]) (S1 := (SH ++ X)) (V1 := V) rfl ?_
  rcases ai_if h with ⟨hc, h⟩ | ⟨hc, h⟩
  · refine rn_brT rfl rfl rfl rfl hc ?_
    obtain rfl := Option.some.inj h
    exact rn_ret rfl rfl rfl
  · refine rn_brF rfl rfl rfl rfl hc ?_
    refine rn_go 5 (pc' := 21) (l' := [(0, .ref 22), (1, .long x1)]) (st' := [.long x1, .int (gi V 22 1), .ref 23]) (S1 := (SH ++ X)) (V1 := V) rfl ?_
    obtain ⟨hg, h⟩ := ai_gd h
    refine rg_last (n := 12) rfl rfl hg ?_
    refine rn_go 6 (pc' := 32) (l' := [(0, .ref 22), (1, .long x1)]) (st' := []) (S1 := (SH ++ X)) (V1 := (si (sl V 23 ((gi V 22 1)).toNatClampNeg x1) 22 1 ((gi (sl V 23 ((gi V 22 1)).toNatClampNeg x1) 22 1) + (1 : Int32)))) rfl ?_
    obtain rfl := Option.some.inj h
    exact rn_ret rfl rfl rfl
-- RentByTheWheel$Row.tellOne(J)V (22, None)
def d_Row_tellOne (x1 : Int64) (V : ai_V) : Option ai_V :=
  (d_Row_clear  V).bind fun q1 => ((d_Row_add x1 q1).bind fun q2 => (some q2))
set_option maxRecDepth 20000 in
theorem t_Row_tellOne {X : ai_S} {e : Nat} (hd : 1 ≤ e) {x1 : Int64} {V : ai_V} {r : ai_V} (h : d_Row_tellOne x1 V = some r) : Rn e 64 0 (lv_args 0 [.ref 22, .long x1]) [] (SH ++ X) V none (SH ++ X) r := by
  rw [d_Row_tellOne] at h
  refine rn_go 1 (pc' := 1) (l' := [(0, .ref 22), (1, .long x1)]) (st' := [.ref 22]) (S1 := (SH ++ X)) (V1 := V) rfl ?_
  obtain ⟨q1, hq1, h⟩ := ai_bd h
  refine rn_call rfl rfl rfl rfl rfl rfl (by omega) (t_Row_clear (by omega) hq1) ?_
  refine rn_go 2 (pc' := 6) (l' := [(0, .ref 22), (1, .long x1)]) (st' := [.long x1, .ref 22]) (S1 := (SH ++ X)) (V1 := q1) rfl ?_
  obtain ⟨q2, hq2, h⟩ := ai_bd h
  refine rn_call rfl rfl rfl rfl rfl rfl (by omega) (t_Row_add (by omega) hq2) ?_
  obtain rfl := Option.some.inj h
  exact rn_ret rfl rfl rfl
-- RentByTheWheel$Row.tellTwo(JJ)V (22, None, None)
def d_Row_tellTwo (x1 : Int64) (x3 : Int64) (V : ai_V) : Option ai_V :=
  (d_Row_tellOne x1 V).bind fun q1 => ((d_Row_add x3 q1).bind fun q2 => (some q2))
set_option maxRecDepth 20000 in
theorem t_Row_tellTwo {X : ai_S} {e : Nat} (hd : 2 ≤ e) {x1 : Int64} {x3 : Int64} {V : ai_V} {r : ai_V} (h : d_Row_tellTwo x1 x3 V = some r) : Rn e 65 0 (lv_args 0 [.ref 22, .long x1, .long x3]) [] (SH ++ X) V none (SH ++ X) r := by
  rw [d_Row_tellTwo] at h
  refine rn_go 2 (pc' := 2) (l' := [(0, .ref 22), (1, .long x1), (3, .long x3)]) (st' := [.long x1, .ref 22]) (S1 := (SH ++ X)) (V1 := V) rfl ?_
  obtain ⟨q1, hq1, h⟩ := ai_bd h
  refine rn_call rfl rfl rfl rfl rfl rfl (by omega) (t_Row_tellOne (by omega) hq1) ?_
  refine rn_go 2 (pc' := 7) (l' := [(0, .ref 22), (1, .long x1), (3, .long x3)]) (st' := [.long x3, .ref 22]) (S1 := (SH ++ X)) (V1 := q1) rfl ?_
  obtain ⟨q2, hq2, h⟩ := ai_bd h
  refine rn_call rfl rfl rfl rfl rfl rfl (by omega) (t_Row_add (by omega) hq2) ?_
  obtain rfl := Option.some.inj h
  exact rn_ret rfl rfl rfl
-- RentByTheWheel.lifts(II)I (0, None, None)
def d_X_lifts (x1 : Int32) (x2 : Int32) (V : ai_V) : Option (Int32 × ai_V) :=
  if x1 = (-1 : Int32) then (some ((-1 : Int32), V)) else ((d_House_canTread x1 x2 V).bind fun q1 => (if ¬ q1 = 0 then ((d_House_turnsOf x1 x2 V).bind fun q2 => ((d_Wheel_pailsNow x2 x1 V).bind fun q3 => ((d_Row_tellTwo (q2).toInt64 (q3.1).toInt64 q3.2).bind fun q4 => ((d_Wheel_pailsNow x1 x2 q4).bind fun q5 => (some (q5.1, q5.2)))))) else (some ((-1 : Int32), V))))
set_option maxRecDepth 20000 in
theorem t_X_lifts {X : ai_S} {e : Nat} (hd : 4 ≤ e) {x1 : Int32} {x2 : Int32} {V : ai_V} {r : (Int32 × ai_V)} (h : d_X_lifts x1 x2 V = some r) : Rn e 98 0 (lv_args 0 [.ref 0, .int x1, .int x2]) [] (SH ++ X) V (some (.int r.1)) (SH ++ X) r.2 := by
  rw [d_X_lifts] at h
  refine rn_go 2 (pc' := 2) (l' := [(0, .ref 0), (1, .int x1), (2, .int x2)]) (st' := [.int (-1 : Int32), .int x1]) (S1 := (SH ++ X)) (V1 := V) rfl ?_
  rcases ai_if h with ⟨hc, h⟩ | ⟨hc, h⟩
  · refine rn_brT rfl rfl rfl rfl hc ?_
    refine rn_go 1 (pc' := 18) (l' := [(0, .ref 0), (1, .int x1), (2, .int x2)]) (st' := [.int (-1 : Int32)]) (S1 := (SH ++ X)) (V1 := V) rfl ?_
    obtain rfl := Option.some.inj h
    exact rn_ret rfl rfl rfl
  · refine rn_brF rfl rfl rfl rfl hc ?_
    refine rn_go 4 (pc' := 11) (l' := [(0, .ref 0), (1, .int x1), (2, .int x2)]) (st' := [.int x2, .int x1, .ref 3]) (S1 := (SH ++ X)) (V1 := V) rfl ?_
    obtain ⟨q1, hq1, h⟩ := ai_bd h
    refine rn_call rfl rfl rfl rfl rfl rfl (by omega) (t_House_canTread (by omega) hq1) ?_
    rcases ai_if h with ⟨hc, h⟩ | ⟨hc, h⟩
    · refine rn_brT rfl rfl rfl rfl hc ?_
      refine rn_go 6 (pc' := 29) (l' := [(0, .ref 0), (1, .int x1), (2, .int x2)]) (st' := [.int x2, .int x1, .ref 3, .ref 22]) (S1 := (SH ++ X)) (V1 := V) rfl ?_
      obtain ⟨q2, hq2, h⟩ := ai_bd h
      refine rn_call rfl rfl rfl rfl rfl rfl (by omega) (t_House_turnsOf (by omega) hq2) ?_
      refine rn_go 7 (pc' := 43) (l' := [(0, .ref 0), (1, .int x1), (2, .int x2)]) (st' := [.ref 16, .int x1, .int x2, .ref 15, .long (q2).toInt64, .ref 22]) (S1 := (SH ++ X)) (V1 := V) rfl ?_
      obtain ⟨q3, hq3, h⟩ := ai_bd h
      refine rn_call rfl rfl rfl rfl rfl rfl (by omega) (t_Wheel_pailsNow (by omega) hq3) ?_
      refine rn_go 1 (pc' := 47) (l' := [(0, .ref 0), (1, .int x1), (2, .int x2)]) (st' := [.long (q3.1).toInt64, .long (q2).toInt64, .ref 22]) (S1 := (SH ++ X)) (V1 := q3.2) rfl ?_
      obtain ⟨q4, hq4, h⟩ := ai_bd h
      refine rn_call rfl rfl rfl rfl rfl rfl (by omega) (t_Row_tellTwo (by omega) hq4) ?_
      refine rn_go 6 (pc' := 60) (l' := [(0, .ref 0), (1, .int x1), (2, .int x2)]) (st' := [.ref 16, .int x2, .int x1, .ref 15]) (S1 := (SH ++ X)) (V1 := q4) rfl ?_
      obtain ⟨q5, hq5, h⟩ := ai_bd h
      refine rn_call rfl rfl rfl rfl rfl rfl (by omega) (t_Wheel_pailsNow (by omega) hq5) ?_
      obtain rfl := Option.some.inj h
      exact rn_ret rfl rfl rfl
    · refine rn_brF rfl rfl rfl rfl hc ?_
      refine rn_go 1 (pc' := 18) (l' := [(0, .ref 0), (1, .int x1), (2, .int x2)]) (st' := [.int (-1 : Int32)]) (S1 := (SH ++ X)) (V1 := V) rfl ?_
      obtain rfl := Option.some.inj h
      exact rn_ret rfl rfl rfl
-- RentByTheWheel.changeRoom(I)I (0, None)
def d_X_changeRoom (x1 : Int32) (V : ai_V) : Option (Int32 × ai_V) :=
  if x1 < (1 : Int32) then (some ((-1 : Int32), V)) else (if x1 ≤ (999 : Int32) then (some ((gi V 16 2), (si (si V 16 2 x1) 16 1 (ai_min (gi (si V 16 2 x1) 16 1) x1)))) else (some ((-1 : Int32), V)))
set_option maxRecDepth 20000 in
theorem t_X_changeRoom {X : ai_S} {e : Nat} (hd : 0 ≤ e) {x1 : Int32} {V : ai_V} {r : (Int32 × ai_V)} (h : d_X_changeRoom x1 V = some r) : Rn e 99 0 (lv_args 0 [.ref 0, .int x1]) [] (SH ++ X) V (some (.int r.1)) (SH ++ X) r.2 := by
  rw [d_X_changeRoom] at h
  refine rn_go 2 (pc' := 2) (l' := [(0, .ref 0), (1, .int x1)]) (st' := [.int (1 : Int32), .int x1]) (S1 := (SH ++ X)) (V1 := V) rfl ?_
  rcases ai_if h with ⟨hc, h⟩ | ⟨hc, h⟩
  · refine rn_brT rfl rfl rfl rfl hc ?_
    refine rn_go 1 (pc' := 13) (l' := [(0, .ref 0), (1, .int x1)]) (st' := [.int (-1 : Int32)]) (S1 := (SH ++ X)) (V1 := V) rfl ?_
    obtain rfl := Option.some.inj h
    exact rn_ret rfl rfl rfl
  · refine rn_brF rfl rfl rfl rfl hc ?_
    refine rn_go 2 (pc' := 9) (l' := [(0, .ref 0), (1, .int x1)]) (st' := [.int (999 : Int32), .int x1]) (S1 := (SH ++ X)) (V1 := V) rfl ?_
    rcases ai_if h with ⟨hc, h⟩ | ⟨hc, h⟩
    · refine rn_brT rfl rfl rfl rfl hc ?_
      refine rn_go 17 (pc' := 49) (l' := [(2, .int (gi V 16 2)), (0, .ref 0), (1, .int x1)]) (st' := [.int (gi V 16 2)]) (S1 := (SH ++ X)) (V1 := (si (si V 16 2 x1) 16 1 (ai_min (gi (si V 16 2 x1) 16 1) x1))) rfl ?_
      obtain rfl := Option.some.inj h
      exact rn_ret rfl rfl rfl
    · refine rn_brF rfl rfl rfl rfl hc ?_
      refine rn_go 1 (pc' := 13) (l' := [(0, .ref 0), (1, .int x1)]) (st' := [.int (-1 : Int32)]) (S1 := (SH ++ X)) (V1 := V) rfl ?_
      obtain rfl := Option.some.inj h
      exact rn_ret rfl rfl rfl
-- RentByTheWheel.changeDue(I)I (0, None)
def d_X_changeDue (x1 : Int32) (V : ai_V) : Option (Int32 × ai_V) :=
  if x1 < 0 then (some ((-1 : Int32), V)) else (if x1 ≤ (9 : Int32) then (some ((gi V 3 1), (si V 3 1 x1))) else (some ((-1 : Int32), V)))
set_option maxRecDepth 20000 in
theorem t_X_changeDue {X : ai_S} {e : Nat} (hd : 0 ≤ e) {x1 : Int32} {V : ai_V} {r : (Int32 × ai_V)} (h : d_X_changeDue x1 V = some r) : Rn e 100 0 (lv_args 0 [.ref 0, .int x1]) [] (SH ++ X) V (some (.int r.1)) (SH ++ X) r.2 := by
  rw [d_X_changeDue] at h
  refine rn_go 1 (pc' := 1) (l' := [(0, .ref 0), (1, .int x1)]) (st' := [.int x1]) (S1 := (SH ++ X)) (V1 := V) rfl ?_
  rcases ai_if h with ⟨hc, h⟩ | ⟨hc, h⟩
  · refine rn_brT rfl rfl rfl rfl hc ?_
    refine rn_go 1 (pc' := 11) (l' := [(0, .ref 0), (1, .int x1)]) (st' := [.int (-1 : Int32)]) (S1 := (SH ++ X)) (V1 := V) rfl ?_
    obtain rfl := Option.some.inj h
    exact rn_ret rfl rfl rfl
  · refine rn_brF rfl rfl rfl rfl hc ?_
    refine rn_go 2 (pc' := 7) (l' := [(0, .ref 0), (1, .int x1)]) (st' := [.int (9 : Int32), .int x1]) (S1 := (SH ++ X)) (V1 := V) rfl ?_
    rcases ai_if h with ⟨hc, h⟩ | ⟨hc, h⟩
    · refine rn_brT rfl rfl rfl rfl hc ?_
      refine rn_go 9 (pc' := 29) (l' := [(2, .int (gi V 3 1)), (0, .ref 0), (1, .int x1)]) (st' := [.int (gi V 3 1)]) (S1 := (SH ++ X)) (V1 := (si V 3 1 x1)) rfl ?_
      obtain rfl := Option.some.inj h
      exact rn_ret rfl rfl rfl
    · refine rn_brF rfl rfl rfl rfl hc ?_
      refine rn_go 1 (pc' := 11) (l' := [(0, .ref 0), (1, .int x1)]) (st' := [.int (-1 : Int32)]) (S1 := (SH ++ X)) (V1 := V) rfl ?_
      obtain rfl := Option.some.inj h
      exact rn_ret rfl rfl rfl
-- RentByTheWheel.changeLevel(I)I (0, None)
def d_X_changeLevel (x1 : Int32) (V : ai_V) : Option (Int32 × ai_V) :=
  if x1 < 0 then (some ((-1 : Int32), V)) else (if x1 ≤ (gi V 16 2) then (some ((gi V 16 1), (si V 16 1 x1))) else (some ((-1 : Int32), V)))
set_option maxRecDepth 20000 in
theorem t_X_changeLevel {X : ai_S} {e : Nat} (hd : 0 ≤ e) {x1 : Int32} {V : ai_V} {r : (Int32 × ai_V)} (h : d_X_changeLevel x1 V = some r) : Rn e 101 0 (lv_args 0 [.ref 0, .int x1]) [] (SH ++ X) V (some (.int r.1)) (SH ++ X) r.2 := by
  rw [d_X_changeLevel] at h
  refine rn_go 1 (pc' := 1) (l' := [(0, .ref 0), (1, .int x1)]) (st' := [.int x1]) (S1 := (SH ++ X)) (V1 := V) rfl ?_
  rcases ai_if h with ⟨hc, h⟩ | ⟨hc, h⟩
  · refine rn_brT rfl rfl rfl rfl hc ?_
    refine rn_go 1 (pc' := 16) (l' := [(0, .ref 0), (1, .int x1)]) (st' := [.int (-1 : Int32)]) (S1 := (SH ++ X)) (V1 := V) rfl ?_
    obtain rfl := Option.some.inj h
    exact rn_ret rfl rfl rfl
  · refine rn_brF rfl rfl rfl rfl hc ?_
    refine rn_go 4 (pc' := 12) (l' := [(0, .ref 0), (1, .int x1)]) (st' := [.int (gi V 16 2), .int x1]) (S1 := (SH ++ X)) (V1 := V) rfl ?_
    rcases ai_if h with ⟨hc, h⟩ | ⟨hc, h⟩
    · refine rn_brT rfl rfl rfl rfl hc ?_
      refine rn_go 9 (pc' := 34) (l' := [(2, .int (gi V 16 1)), (0, .ref 0), (1, .int x1)]) (st' := [.int (gi V 16 1)]) (S1 := (SH ++ X)) (V1 := (si V 16 1 x1)) rfl ?_
      obtain rfl := Option.some.inj h
      exact rn_ret rfl rfl rfl
    · refine rn_brF rfl rfl rfl rfl hc ?_
      refine rn_go 1 (pc' := 16) (l' := [(0, .ref 0), (1, .int x1)]) (st' := [.int (-1 : Int32)]) (S1 := (SH ++ X)) (V1 := V) rfl ?_
      obtain rfl := Option.some.inj h
      exact rn_ret rfl rfl rfl
