/-! ===== printed by wip/gen/first.py: the first call that wants the table of costs makes it ===== -/
theorem rn_callA {e k pc nx op a b : Nat} {x : Int32} {ts : List (Int32 × Nat)} {l : ai_L} {st as rest : List Value} {S S1 S' : ai_S} {V V1 V' : ai_V} {v w : Option Value} (hat : ai_at (ai_C k) pc = some (nx, op, a, b, x, ts)) (h70 : Nat.blt op 70 = false) (h90 : Nat.blt op 90 = false) (h94 : Nat.blt op 94 = true) (hcall : ai_call op b st S = some (as, rest)) (hfit : ai_fit b as rest = true) (he : 1 ≤ e) (hfs : (Nat.beq S1.length S.length || ai_fs S.length l rest) = true) (hsub : Rn (e - 1) b 0 (lv_args 0 as) [] S V w S1 V1) (h : Rn e k nx l (w.toList ++ rest) S1 V1 v S' V') : Rn e k pc l st S V v S' V' := by
  obtain ⟨n1, h1⟩ := hsub
  obtain ⟨n2, h2⟩ := h
  refine ⟨max n1 n2 + 1, ?_⟩
  obtain ⟨e', rfl⟩ : ∃ e', e = e' + 1 := ⟨e - 1, by omega⟩
  rw [Nat.add_sub_cancel] at h1
  rw [ai_run]
  simp only [hat, h70, h90, h94, cond_true, cond_false, hcall, hfit, ai_run_le (Nat.le_max_left n1 n2) h1]
  rw [hfs, cond_true]
  exact ai_run_le (Nat.le_max_right n1 n2) h2
/-- the numbers, once the table is made -/
def ai_al0 (V : ai_V) : ai_V := sr (ai_z V 119) 64 2 (some 119)
set_option maxRecDepth 100000 in
theorem SH_free {V : ai_V} (h1 : gr V 64 2 = some 68) (h2 : gr V 89 15 = none ∨ gr V 89 15 = some 96 ∨ gr V 89 15 = some 99) : ai_scS 119 V 0 SH = true := by
  have e1 : ai_scr 119 (gr V 64 2) = true := by rw [h1]; rfl
  have e2 : ai_scr 119 (gr V 89 15) = true := by rcases h2 with h | h | h <;> rw [h] <;> rfl
  simp only [SH, ai_scS, ai_scE, ai_scF, ai_scv, Nat.reduceAdd, e1, e2, Bool.and_self, Bool.true_and, Bool.and_true, ai_sc]
  rfl
set_option maxRecDepth 20000 in
theorem t0_Plan_leastCost {e : Nat} (hd : 166 ≤ e) {x2 x3 x4 : Int32} {V : ai_V} {r : (Int32 × ai_V)} (h1 : gr V 64 2 = some 68) (h2 : gr V 89 15 = none ∨ gr V 89 15 = some 96 ∨ gr V 89 15 = some 99) (h : d_Plan_leastCost_17 x2 x3 x4 (ai_al0 V) = some r) : Rn e 58 0 (lv_args 0 [.ref 64, .ref 16, .int x2, .int x3, .int x4]) [] (SH ++ []) V (some (.int r.1)) (SH ++ [kcost]) r.2 := by
  refine rn_go 1 (pc' := 1) (l' := [(0, .ref 64), (1, .ref 16), (2, .int x2), (3, .int x3), (4, .int x4)]) (st' := [.ref 64]) (S1 := (SH ++ [])) (V1 := V) rfl ?_
  refine rg_gfr (z := 0) rfl rfl rfl h1 ?_
  refine rn_go 1 (pc' := 5) (l' := [(0, .ref 64), (1, .ref 16), (2, .int x2), (3, .int x3), (4, .int x4)]) (st' := [.int (Int32.ofNat 0)]) (S1 := (SH ++ [])) (V1 := V) rfl ?_
  refine rn_brF rfl rfl rfl rfl (by decide) ?_
  refine rn_go 2 (pc' := 12) (l' := [(0, .ref 64), (1, .ref 16), (2, .int x2), (3, .int x3), (4, .int x4)]) (st' := [.int (12000 : Int32), .ref 64]) (S1 := (SH ++ [])) (V1 := V) rfl ?_
  refine rn_ex (l' := [(0, .ref 64), (1, .ref 16), (2, .int x2), (3, .int x3), (4, .int x4)]) (st' := [.ref 119, .ref 64]) (S1 := SH ++ [kcost]) (V1 := ai_z V 119) rfl rfl ?_ ?_
  · simp only [ai_ex, List.append_nil]
    have hf : ai_free [(0, .ref 64), (1, .ref 16), (2, .int x2), (3, .int x3), (4, .int x4)] [.ref 64] SH V = true := by
      have : ai_scS SH.length V 0 SH = true := SH_free h1 h2
      simp only [ai_free, this, Bool.and_true]
      rfl
    simp only [ai_newA, hf, cond_true]
    rw [if_pos (by decide)]
    rfl
  · refine rn_go 1 (pc' := 17) (l' := [(0, .ref 64), (1, .ref 16), (2, .int x2), (3, .int x3), (4, .int x4)]) (st' := []) (S1 := SH ++ [kcost]) (V1 := ai_al0 V) rfl ?_
    exact rn_sub [0, 1, 2, 3, 4] rfl rfl (t_Plan_leastCost_17 (X := []) hd x2 x3 x4 (ai_al0 V) _ h)
/-- where it is refused nothing is made -/
def d_no_fewest (x1 x2 : Int32) (V : ai_V) : Option Unit := (d_House_hasAll x1 V).bind fun q2 => (if q2 = 0 then some () else (if x2 < (1 : Int32) then some () else (if x2 ≤ (12 : Int32) then none else some ())))
set_option maxRecDepth 20000 in
theorem t0_no_fewest {X : ai_S} {e : Nat} (hd : 168 ≤ e) {x1 : Int32} {x2 : Int32} {V : ai_V} {r : Unit} (h : d_no_fewest x1 x2 V = some r) : Rn e 114 0 (lv_args 0 [.ref 0, .int x1, .int x2]) [] (SH ++ X) V (some (.int (-1 : Int32))) (SH ++ X) V := by
  rw [d_no_fewest] at h
  refine rn_go 3 (pc' := 5) (l' := [(0, .ref 0), (1, .int x1), (2, .int x2)]) (st' := [.int x1, .ref 3]) (S1 := (SH ++ X)) (V1 := V) rfl ?_
  obtain ⟨q2, hq2, h⟩ := ai_bd h
  refine rn_call rfl rfl rfl rfl rfl rfl (by omega) (t_House_hasAll (by omega) hq2) ?_
  rcases ai_if h with ⟨hc, h⟩ | ⟨hc, h⟩
  · refine rn_brT rfl rfl rfl rfl hc ?_
    refine rn_go 1 (pc' := 23) (l' := [(0, .ref 0), (1, .int x1), (2, .int x2)]) (st' := [.int (-1 : Int32)]) (S1 := (SH ++ X)) (V1 := V) rfl ?_
    exact rn_ret rfl rfl rfl
  · refine rn_brF rfl rfl rfl rfl hc ?_
    refine rn_go 2 (pc' := 13) (l' := [(0, .ref 0), (1, .int x1), (2, .int x2)]) (st' := [.int (1 : Int32), .int x2]) (S1 := (SH ++ X)) (V1 := V) rfl ?_
    rcases ai_if h with ⟨hc, h⟩ | ⟨hc, h⟩
    · refine rn_brT rfl rfl rfl rfl hc ?_
      refine rn_go 1 (pc' := 23) (l' := [(0, .ref 0), (1, .int x1), (2, .int x2)]) (st' := [.int (-1 : Int32)]) (S1 := (SH ++ X)) (V1 := V) rfl ?_
      exact rn_ret rfl rfl rfl
    · refine rn_brF rfl rfl rfl rfl hc ?_
      refine rn_go 2 (pc' := 19) (l' := [(0, .ref 0), (1, .int x1), (2, .int x2)]) (st' := [.int (12 : Int32), .int x2]) (S1 := (SH ++ X)) (V1 := V) rfl ?_
      rcases ai_if h with ⟨hc, h⟩ | ⟨hc, h⟩
      · cases h
      · refine rn_brF rfl rfl rfl rfl hc ?_
        refine rn_go 1 (pc' := 23) (l' := [(0, .ref 0), (1, .int x1), (2, .int x2)]) (st' := [.int (-1 : Int32)]) (S1 := (SH ++ X)) (V1 := V) rfl ?_
        exact rn_ret rfl rfl rfl
/-- what it answers where the table must be made first -/
def d0_X_fewest (x1 x2 : Int32) (V : ai_V) : Option (Int32 × ai_V) := (d_House_hasAll x1 V).bind fun q2 => (if q2 = 0 then none else (if x2 < (1 : Int32) then none else (if x2 ≤ (12 : Int32) then ((d_Plan_leastCost_17 x1 x2 (1 : Int32) (ai_al0 V)).bind fun q3 => (d_X_fewest_38 q3.1 q3.2)) else none)))
set_option maxRecDepth 20000 in
theorem t0_X_fewest {e : Nat} (hd : 168 ≤ e) {x1 : Int32} {x2 : Int32} {V : ai_V} {r : (Int32 × ai_V)} (h1 : gr V 64 2 = some 68) (h2 : gr V 89 15 = none ∨ gr V 89 15 = some 96 ∨ gr V 89 15 = some 99) (h : d0_X_fewest x1 x2 V = some r) : Rn e 114 0 (lv_args 0 [.ref 0, .int x1, .int x2]) [] (SH ++ []) V (some (.int r.1)) (SH ++ [kcost]) r.2 := by
  rw [d0_X_fewest] at h
  refine rn_go 3 (pc' := 5) (l' := [(0, .ref 0), (1, .int x1), (2, .int x2)]) (st' := [.int x1, .ref 3]) (S1 := (SH ++ [])) (V1 := V) rfl ?_
  obtain ⟨q2, hq2, h⟩ := ai_bd h
  refine rn_call rfl rfl rfl rfl rfl rfl (by omega) (t_House_hasAll (by omega) hq2) ?_
  rcases ai_if h with ⟨hc, h⟩ | ⟨hc, h⟩
  · cases h
  · refine rn_brF rfl rfl rfl rfl hc ?_
    refine rn_go 2 (pc' := 13) (l' := [(0, .ref 0), (1, .int x1), (2, .int x2)]) (st' := [.int (1 : Int32), .int x2]) (S1 := (SH ++ [])) (V1 := V) rfl ?_
    rcases ai_if h with ⟨hc, h⟩ | ⟨hc, h⟩
    · cases h
    · refine rn_brF rfl rfl rfl rfl hc ?_
      refine rn_go 2 (pc' := 19) (l' := [(0, .ref 0), (1, .int x1), (2, .int x2)]) (st' := [.int (12 : Int32), .int x2]) (S1 := (SH ++ [])) (V1 := V) rfl ?_
      rcases ai_if h with ⟨hc, h⟩ | ⟨hc, h⟩
      · refine rn_brT rfl rfl rfl rfl hc ?_
        refine rn_go 7 (pc' := 35) (l' := [(0, .ref 0), (1, .int x1), (2, .int x2)]) (st' := [.int (1 : Int32), .int x2, .int x1, .ref 16, .ref 64]) (S1 := (SH ++ [])) (V1 := V) rfl ?_
        obtain ⟨q3, hq3, h⟩ := ai_bd h
        refine rn_callA rfl rfl rfl rfl rfl rfl (by omega) rfl (t0_Plan_leastCost (by omega) h1 h2 hq3) ?_
        exact rn_sub [0] rfl rfl (t_X_fewest_38 (X := []) hd q3.1 q3.2 _ h)
      · cases h
/-- where it is refused nothing is made -/
def d_no_driest (x1 x2 : Int32) (V : ai_V) : Option Unit := (d_House_hasAll x1 V).bind fun q2 => (if q2 = 0 then some () else (if x2 < (1 : Int32) then some () else (if x2 ≤ (12 : Int32) then none else some ())))
set_option maxRecDepth 20000 in
theorem t0_no_driest {X : ai_S} {e : Nat} (hd : 168 ≤ e) {x1 : Int32} {x2 : Int32} {V : ai_V} {r : Unit} (h : d_no_driest x1 x2 V = some r) : Rn e 115 0 (lv_args 0 [.ref 0, .int x1, .int x2]) [] (SH ++ X) V (some (.int (-1 : Int32))) (SH ++ X) V := by
  rw [d_no_driest] at h
  refine rn_go 3 (pc' := 5) (l' := [(0, .ref 0), (1, .int x1), (2, .int x2)]) (st' := [.int x1, .ref 3]) (S1 := (SH ++ X)) (V1 := V) rfl ?_
  obtain ⟨q2, hq2, h⟩ := ai_bd h
  refine rn_call rfl rfl rfl rfl rfl rfl (by omega) (t_House_hasAll (by omega) hq2) ?_
  rcases ai_if h with ⟨hc, h⟩ | ⟨hc, h⟩
  · refine rn_brT rfl rfl rfl rfl hc ?_
    refine rn_go 1 (pc' := 23) (l' := [(0, .ref 0), (1, .int x1), (2, .int x2)]) (st' := [.int (-1 : Int32)]) (S1 := (SH ++ X)) (V1 := V) rfl ?_
    exact rn_ret rfl rfl rfl
  · refine rn_brF rfl rfl rfl rfl hc ?_
    refine rn_go 2 (pc' := 13) (l' := [(0, .ref 0), (1, .int x1), (2, .int x2)]) (st' := [.int (1 : Int32), .int x2]) (S1 := (SH ++ X)) (V1 := V) rfl ?_
    rcases ai_if h with ⟨hc, h⟩ | ⟨hc, h⟩
    · refine rn_brT rfl rfl rfl rfl hc ?_
      refine rn_go 1 (pc' := 23) (l' := [(0, .ref 0), (1, .int x1), (2, .int x2)]) (st' := [.int (-1 : Int32)]) (S1 := (SH ++ X)) (V1 := V) rfl ?_
      exact rn_ret rfl rfl rfl
    · refine rn_brF rfl rfl rfl rfl hc ?_
      refine rn_go 2 (pc' := 19) (l' := [(0, .ref 0), (1, .int x1), (2, .int x2)]) (st' := [.int (12 : Int32), .int x2]) (S1 := (SH ++ X)) (V1 := V) rfl ?_
      rcases ai_if h with ⟨hc, h⟩ | ⟨hc, h⟩
      · cases h
      · refine rn_brF rfl rfl rfl rfl hc ?_
        refine rn_go 1 (pc' := 23) (l' := [(0, .ref 0), (1, .int x1), (2, .int x2)]) (st' := [.int (-1 : Int32)]) (S1 := (SH ++ X)) (V1 := V) rfl ?_
        exact rn_ret rfl rfl rfl
/-- what it answers where the table must be made first -/
def d0_X_driest (x1 x2 : Int32) (V : ai_V) : Option (Int32 × ai_V) := (d_House_hasAll x1 V).bind fun q2 => (if q2 = 0 then none else (if x2 < (1 : Int32) then none else (if x2 ≤ (12 : Int32) then ((d_Plan_leastCost_17 x1 x2 (0 : Int32) (ai_al0 V)).bind fun q3 => (d_X_driest_38 q3.1 q3.2)) else none)))
set_option maxRecDepth 20000 in
theorem t0_X_driest {e : Nat} (hd : 168 ≤ e) {x1 : Int32} {x2 : Int32} {V : ai_V} {r : (Int32 × ai_V)} (h1 : gr V 64 2 = some 68) (h2 : gr V 89 15 = none ∨ gr V 89 15 = some 96 ∨ gr V 89 15 = some 99) (h : d0_X_driest x1 x2 V = some r) : Rn e 115 0 (lv_args 0 [.ref 0, .int x1, .int x2]) [] (SH ++ []) V (some (.int r.1)) (SH ++ [kcost]) r.2 := by
  rw [d0_X_driest] at h
  refine rn_go 3 (pc' := 5) (l' := [(0, .ref 0), (1, .int x1), (2, .int x2)]) (st' := [.int x1, .ref 3]) (S1 := (SH ++ [])) (V1 := V) rfl ?_
  obtain ⟨q2, hq2, h⟩ := ai_bd h
  refine rn_call rfl rfl rfl rfl rfl rfl (by omega) (t_House_hasAll (by omega) hq2) ?_
  rcases ai_if h with ⟨hc, h⟩ | ⟨hc, h⟩
  · cases h
  · refine rn_brF rfl rfl rfl rfl hc ?_
    refine rn_go 2 (pc' := 13) (l' := [(0, .ref 0), (1, .int x1), (2, .int x2)]) (st' := [.int (1 : Int32), .int x2]) (S1 := (SH ++ [])) (V1 := V) rfl ?_
    rcases ai_if h with ⟨hc, h⟩ | ⟨hc, h⟩
    · cases h
    · refine rn_brF rfl rfl rfl rfl hc ?_
      refine rn_go 2 (pc' := 19) (l' := [(0, .ref 0), (1, .int x1), (2, .int x2)]) (st' := [.int (12 : Int32), .int x2]) (S1 := (SH ++ [])) (V1 := V) rfl ?_
      rcases ai_if h with ⟨hc, h⟩ | ⟨hc, h⟩
      · refine rn_brT rfl rfl rfl rfl hc ?_
        refine rn_go 7 (pc' := 35) (l' := [(0, .ref 0), (1, .int x1), (2, .int x2)]) (st' := [.int (0 : Int32), .int x2, .int x1, .ref 16, .ref 64]) (S1 := (SH ++ [])) (V1 := V) rfl ?_
        obtain ⟨q3, hq3, h⟩ := ai_bd h
        refine rn_callA rfl rfl rfl rfl rfl rfl (by omega) rfl (t0_Plan_leastCost (by omega) h1 h2 hq3) ?_
        exact rn_sub [0] rfl rfl (t_X_driest_38 (X := []) hd q3.1 q3.2 _ h)
      · cases h
