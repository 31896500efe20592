/-! ===== printed by wip/gen/cases2.py: the cases with a helper; the table of costs made by a call ===== -/
theorem lg_cmp_self (x : Int64) : lg_cmp x x = 0 := by unfold lg_cmp; simp
theorem GW_hx {idx : Nat} {y : MethodName} {cc : ByteArray} {nL : Nat} {hh : List (Nat × Nat × Nat × Nat)} (h : ∀ w ∈ va_wsS "RentByTheWheelLaw" idx y [Cond.codeWith y cc nL (some .int) hh], w ∈ lw_tbl ∧ goodWord w = true) : GoodIn GW (va_wsS "RentByTheWheelLaw" idx y (hx_ws y cc nL hh)) := by
  intro w hw
  have key : w ∈ GW := by
    unfold va_wsS hx_ws at hw
    rcases List.mem_append.mp hw with h1 | h1
    · have := h w (by unfold va_wsS; exact List.mem_append_left _ h1)
      exact GW_of this.1 this.2
    · rcases List.mem_cons.mp h1 with rfl | h1
      · have := h _ (by unfold va_wsS; exact List.mem_append_right _ List.mem_cons_self)
        exact GW_of this.1 this.2
      · exact h1
  exact ⟨key, good_of_word (List.mem_filter.mp key).2⟩
set_option maxRecDepth 20000 in
theorem gw_lodger : GoodIn GW (va_wsS "RentByTheWheelLaw" 45 hx_yl (hx_ws hx_yl method_3_code 5 [(0, 10, 13, 13)])) := GW_hx (by decide +kernel)
set_option maxRecDepth 20000 in
theorem lc_lodger_r {p : Program} {L : Launch} {e : Env} {s : State} {m : MethodId} {args : Array Value} {below : List Frame} {meth : Method} {c : Code} {cells slots : Nat} {Q : State → Prop} {D : va_G} {E : Nat → ClassId} {r : Nat → Nat} {A : Nat → Prop} {n : Nat} {xs : Nat → Int32} (C : lw_C p L s m args meth c A r n xs) (hc : cells + 0 ≤ 194196) (hs : slots + 0 ≤ 8513518) {P : Int32} {v : Int32} {X : ai_S} {V V2 : ai_V} (i1 : vp_in (P + 1) n) (i2 : vp_in (P + 2) n) (hx : d_X_lodger (xs (P + 1).toNatClampNeg) (xs (P + 2).toNatClampNeg) V = some v) (hm : d_M_lodger (xs (P + 1).toNatClampNeg) (xs (P + 2).toNatClampNeg) (sl V 118 0 v.toInt64) = some (v, V2)) (ht : d_M_thrown V2 = some 0) (hg : gl V2 118 0 = v.toInt64) (kk : WL p L e s m args below meth c (cells + 0) (slots + 0) Q D E r A 1610 [(0, .ref 999996), (1, .ref 0), (2, .ref 89), (3, .ref 118), (4, .int P)] [] (SH ++ X) V2) : WL p L e s m args below meth c cells slots Q D E r A 312 [(0, .ref 999996), (1, .ref 0), (2, .ref 89), (3, .ref 118), (4, .int P)] [] (SH ++ X) V := by
  have hc0 : cells ≤ 194196 := by omega
  have hs0 : slots ≤ 8513518 := by omega
  refine wl_go C hc0 hs0 5 (pc' := 318) (l' := [(0, .ref 999996), (1, .ref 0), (2, .ref 89), (3, .ref 118), (4, .int P)]) (st' := [.int (P + 1), .ref 999996, .ref 0]) (S' := SH ++ X) (V' := V) rfl ?_
  refine wl_ld C i1 (by decide +kernel) ?_
  refine wl_go C hc0 hs0 4 (pc' := 324) (l' := [(0, .ref 999996), (1, .ref 0), (2, .ref 89), (3, .ref 118), (4, .int P)]) (st' := [.int (P + 2), .ref 999996, .int (xs (P + 1).toNatClampNeg), .ref 0]) (S' := SH ++ X) (V' := V) rfl ?_
  refine wl_ld C i2 (by decide +kernel) ?_
  refine wl_go C hc0 hs0 1 (pc' := 326) (l' := [(0, .ref 999996), (1, .ref 0), (2, .ref 89), (3, .ref 118), (4, .int P)]) (st' := [.ref 118, .int (xs (P + 2).toNatClampNeg), .int (xs (P + 1).toNatClampNeg), .ref 0]) (S' := SH ++ X) (V' := V) rfl ?_
  refine wl_callH (n0 := 4) (as := [.ref 0, .int (xs (P + 1).toNatClampNeg), .int (xs (P + 2).toNatClampNeg), .ref 118]) (rest := []) (mc := 0) (ms := 0) C (hx_lodger_r hx D E r) (by decide +kernel) gw_lodger (by decide) (by decide) rfl rfl (by decide) hc hs ?_
  refine wl_go C hc hs 6 (pc' := 337) (l' := ((5, .int 0) :: [(0, .ref 999996), (1, .ref 0), (2, .ref 89), (3, .ref 118), (4, .int P)])) (st' := [.int (P + 1), .ref 999996, .ref 89]) (S' := SH ++ X) (V' := (sl V 118 0 v.toInt64)) rfl ?_
  refine wl_ld C i1 (by decide +kernel) ?_
  refine wl_go C hc hs 4 (pc' := 343) (l' := ((5, .int 0) :: [(0, .ref 999996), (1, .ref 0), (2, .ref 89), (3, .ref 118), (4, .int P)])) (st' := [.int (P + 2), .ref 999996, .int (xs (P + 1).toNatClampNeg), .ref 89]) (S' := SH ++ X) (V' := (sl V 118 0 v.toInt64)) rfl ?_
  refine wl_ld C i2 (by decide +kernel) ?_
  refine wl_call (o := 89) (as := [.int (xs (P + 1).toNatClampNeg), .int (xs (P + 2).toNatClampNeg)]) (rest := []) C rfl (t_M_lodger (X := X) (Nat.le_refl _) hm) rfl (by decide) rfl rfl rfl (by decide) hc hs ?_
  refine wl_go C hc hs 2 (pc' := 350) (l' := ((6, .int v) :: ((5, .int 0) :: [(0, .ref 999996), (1, .ref 0), (2, .ref 89), (3, .ref 118), (4, .int P)]))) (st' := [.ref 89]) (S' := SH ++ X) (V' := V2) rfl ?_
  refine wl_call (o := 89) (as := []) (rest := []) C rfl (t_M_thrown (X := X) (Nat.le_refl _) ht) rfl (by decide) rfl rfl rfl (by decide) hc hs ?_
  refine wl_go C hc hs 1 (pc' := 355) (l' := ((6, .int v) :: ((5, .int 0) :: [(0, .ref 999996), (1, .ref 0), (2, .ref 89), (3, .ref 118), (4, .int P)]))) (st' := [.int 0, .int 0]) (S' := SH ++ X) (V' := V2) rfl ?_
  refine wl_brT C rfl (by decide) rfl rfl ?_
  refine wl_go C hc hs 1 (pc' := 362) (l' := ((6, .int v) :: ((5, .int 0) :: [(0, .ref 999996), (1, .ref 0), (2, .ref 89), (3, .ref 118), (4, .int P)]))) (st' := [.int 0]) (S' := SH ++ X) (V' := V2) rfl ?_
  refine wl_brF C rfl (by decide) rfl (by decide) ?_
  refine wl_go C hc hs 6 (pc' := 372) (l' := ((6, .int v) :: ((5, .int 0) :: [(0, .ref 999996), (1, .ref 0), (2, .ref 89), (3, .ref 118), (4, .int P)]))) (st' := [.int (lg_cmp (gl V2 118 0) v.toInt64)]) (S' := SH ++ X) (V' := V2) rfl ?_
  refine wl_brT C rfl (by decide) rfl (by rw [hg]; exact lg_cmp_self _) ?_
  refine wl_go C hc hs 1 (pc' := 1610) (l' := ((6, .int v) :: ((5, .int 0) :: [(0, .ref 999996), (1, .ref 0), (2, .ref 89), (3, .ref 118), (4, .int P)]))) (st' := []) (S' := SH ++ X) (V' := V2) rfl ?_
  exact wl_sub [2, 3, 4, 5, 6] rfl kk

set_option maxRecDepth 20000 in
theorem lc_lodger_x {p : Program} {L : Launch} {e : Env} {s : State} {m : MethodId} {args : Array Value} {below : List Frame} {meth : Method} {c : Code} {cells slots : Nat} {Q : State → Prop} {D : va_G} {E : Nat → ClassId} {r : Nat → Nat} {A : Nat → Prop} {n : Nat} {xs : Nat → Int32} (C : lw_C p L s m args meth c A r n xs) (hc : cells + 1 ≤ 194196) (hs : slots + 6 ≤ 8513518) {P : Int32} {u : Int32} {X : ai_S} {V V2 : ai_V} (i1 : vp_in (P + 1) n) (i2 : vp_in (P + 2) n) (hw : nx_way L 256 [.ref 0, .int (xs (P + 1).toNatClampNeg), .int (xs (P + 2).toNatClampNeg)] (SH ++ X) V) (hm : d_M_lodger (xs (P + 1).toNatClampNeg) (xs (P + 2).toNatClampNeg) V = some (u, V2)) (ht : d_M_thrown V2 = some 1) (kk : WL p L e s m args below meth c (cells + 1) (slots + 6) Q D E r A 1610 [(0, .ref 999996), (1, .ref 0), (2, .ref 89), (3, .ref 118), (4, .int P)] [] (SH ++ X) V2) : WL p L e s m args below meth c cells slots Q D E r A 312 [(0, .ref 999996), (1, .ref 0), (2, .ref 89), (3, .ref 118), (4, .int P)] [] (SH ++ X) V := by
  have hc0 : cells ≤ 194196 := by omega
  have hs0 : slots ≤ 8513518 := by omega
  refine wl_go C hc0 hs0 5 (pc' := 318) (l' := [(0, .ref 999996), (1, .ref 0), (2, .ref 89), (3, .ref 118), (4, .int P)]) (st' := [.int (P + 1), .ref 999996, .ref 0]) (S' := SH ++ X) (V' := V) rfl ?_
  refine wl_ld C i1 (by decide +kernel) ?_
  refine wl_go C hc0 hs0 4 (pc' := 324) (l' := [(0, .ref 999996), (1, .ref 0), (2, .ref 89), (3, .ref 118), (4, .int P)]) (st' := [.int (P + 2), .ref 999996, .int (xs (P + 1).toNatClampNeg), .ref 0]) (S' := SH ++ X) (V' := V) rfl ?_
  refine wl_ld C i2 (by decide +kernel) ?_
  refine wl_go C hc0 hs0 1 (pc' := 326) (l' := [(0, .ref 999996), (1, .ref 0), (2, .ref 89), (3, .ref 118), (4, .int P)]) (st' := [.ref 118, .int (xs (P + 2).toNatClampNeg), .int (xs (P + 1).toNatClampNeg), .ref 0]) (S' := SH ++ X) (V' := V) rfl ?_
  refine wl_callH (n0 := 4) (as := [.ref 0, .int (xs (P + 1).toNatClampNeg), .int (xs (P + 2).toNatClampNeg), .ref 118]) (rest := []) (mc := 1) (ms := 6) C (hx_lodger_x hw D E r) (by decide +kernel) gw_lodger (by decide) (by decide) rfl rfl (by decide) hc hs ?_
  refine wl_go C hc hs 6 (pc' := 337) (l' := ((5, .int 1) :: [(0, .ref 999996), (1, .ref 0), (2, .ref 89), (3, .ref 118), (4, .int P)])) (st' := [.int (P + 1), .ref 999996, .ref 89]) (S' := SH ++ X) (V' := V) rfl ?_
  refine wl_ld C i1 (by decide +kernel) ?_
  refine wl_go C hc hs 4 (pc' := 343) (l' := ((5, .int 1) :: [(0, .ref 999996), (1, .ref 0), (2, .ref 89), (3, .ref 118), (4, .int P)])) (st' := [.int (P + 2), .ref 999996, .int (xs (P + 1).toNatClampNeg), .ref 89]) (S' := SH ++ X) (V' := V) rfl ?_
  refine wl_ld C i2 (by decide +kernel) ?_
  refine wl_call (o := 89) (as := [.int (xs (P + 1).toNatClampNeg), .int (xs (P + 2).toNatClampNeg)]) (rest := []) C rfl (t_M_lodger (X := X) (Nat.le_refl _) hm) rfl (by decide) rfl rfl rfl (by decide) hc hs ?_
  refine wl_go C hc hs 2 (pc' := 350) (l' := ((6, .int u) :: ((5, .int 1) :: [(0, .ref 999996), (1, .ref 0), (2, .ref 89), (3, .ref 118), (4, .int P)]))) (st' := [.ref 89]) (S' := SH ++ X) (V' := V2) rfl ?_
  refine wl_call (o := 89) (as := []) (rest := []) C rfl (t_M_thrown (X := X) (Nat.le_refl _) ht) rfl (by decide) rfl rfl rfl (by decide) hc hs ?_
  refine wl_go C hc hs 1 (pc' := 355) (l' := ((6, .int u) :: ((5, .int 1) :: [(0, .ref 999996), (1, .ref 0), (2, .ref 89), (3, .ref 118), (4, .int P)]))) (st' := [.int 1, .int 1]) (S' := SH ++ X) (V' := V2) rfl ?_
  refine wl_brT C rfl (by decide) rfl rfl ?_
  refine wl_go C hc hs 1 (pc' := 362) (l' := ((6, .int u) :: ((5, .int 1) :: [(0, .ref 999996), (1, .ref 0), (2, .ref 89), (3, .ref 118), (4, .int P)]))) (st' := [.int 1]) (S' := SH ++ X) (V' := V2) rfl ?_
  refine wl_brT C rfl (by decide) rfl (by decide) ?_
  refine wl_go C hc hs 1 (pc' := 1610) (l' := ((6, .int u) :: ((5, .int 1) :: [(0, .ref 999996), (1, .ref 0), (2, .ref 89), (3, .ref 118), (4, .int P)]))) (st' := []) (S' := SH ++ X) (V' := V2) rfl ?_
  exact wl_sub [2, 3, 4, 5, 6] rfl kk

set_option maxRecDepth 20000 in
theorem gw_debt : GoodIn GW (va_wsS "RentByTheWheelLaw" 54 hx_yd (hx_ws hx_yd method_4_code 4 [(0, 9, 12, 13)])) := GW_hx (by decide +kernel)
set_option maxRecDepth 20000 in
theorem lc_debt_r {p : Program} {L : Launch} {e : Env} {s : State} {m : MethodId} {args : Array Value} {below : List Frame} {meth : Method} {c : Code} {cells slots : Nat} {Q : State → Prop} {D : va_G} {E : Nat → ClassId} {r : Nat → Nat} {A : Nat → Prop} {n : Nat} {xs : Nat → Int32} (C : lw_C p L s m args meth c A r n xs) (hc : cells + 0 ≤ 194196) (hs : slots + 0 ≤ 8513518) {P : Int32} {v : Int32} {X : ai_S} {V V2 : ai_V} (i1 : vp_in (P + 1) n) (hx : d_X_debt (xs (P + 1).toNatClampNeg) V = some v) (hm : d_M_debt (xs (P + 1).toNatClampNeg) (sl V 118 0 v.toInt64) = some (v, V2)) (ht : d_M_thrown V2 = some 0) (hg : gl V2 118 0 = v.toInt64) (kk : WL p L e s m args below meth c (cells + 0) (slots + 0) Q D E r A 1610 [(0, .ref 999996), (1, .ref 0), (2, .ref 89), (3, .ref 118), (4, .int P)] [] (SH ++ X) V2) : WL p L e s m args below meth c cells slots Q D E r A 380 [(0, .ref 999996), (1, .ref 0), (2, .ref 89), (3, .ref 118), (4, .int P)] [] (SH ++ X) V := by
  have hc0 : cells ≤ 194196 := by omega
  have hs0 : slots ≤ 8513518 := by omega
  refine wl_go C hc0 hs0 5 (pc' := 386) (l' := [(0, .ref 999996), (1, .ref 0), (2, .ref 89), (3, .ref 118), (4, .int P)]) (st' := [.int (P + 1), .ref 999996, .ref 0]) (S' := SH ++ X) (V' := V) rfl ?_
  refine wl_ld C i1 (by decide +kernel) ?_
  refine wl_go C hc0 hs0 1 (pc' := 388) (l' := [(0, .ref 999996), (1, .ref 0), (2, .ref 89), (3, .ref 118), (4, .int P)]) (st' := [.ref 118, .int (xs (P + 1).toNatClampNeg), .ref 0]) (S' := SH ++ X) (V' := V) rfl ?_
  refine wl_callH (n0 := 3) (as := [.ref 0, .int (xs (P + 1).toNatClampNeg), .ref 118]) (rest := []) (mc := 0) (ms := 0) C (hx_debt_r hx D E r) (by decide +kernel) gw_debt (by decide) (by decide) rfl rfl (by decide) hc hs ?_
  refine wl_go C hc hs 6 (pc' := 399) (l' := ((5, .int 0) :: [(0, .ref 999996), (1, .ref 0), (2, .ref 89), (3, .ref 118), (4, .int P)])) (st' := [.int (P + 1), .ref 999996, .ref 89]) (S' := SH ++ X) (V' := (sl V 118 0 v.toInt64)) rfl ?_
  refine wl_ld C i1 (by decide +kernel) ?_
  refine wl_call (o := 89) (as := [.int (xs (P + 1).toNatClampNeg)]) (rest := []) C rfl (t_M_debt (X := X) (Nat.le_refl _) hm) rfl (by decide) rfl rfl rfl (by decide) hc hs ?_
  refine wl_go C hc hs 2 (pc' := 406) (l' := ((6, .int v) :: ((5, .int 0) :: [(0, .ref 999996), (1, .ref 0), (2, .ref 89), (3, .ref 118), (4, .int P)]))) (st' := [.ref 89]) (S' := SH ++ X) (V' := V2) rfl ?_
  refine wl_call (o := 89) (as := []) (rest := []) C rfl (t_M_thrown (X := X) (Nat.le_refl _) ht) rfl (by decide) rfl rfl rfl (by decide) hc hs ?_
  refine wl_go C hc hs 1 (pc' := 411) (l' := ((6, .int v) :: ((5, .int 0) :: [(0, .ref 999996), (1, .ref 0), (2, .ref 89), (3, .ref 118), (4, .int P)]))) (st' := [.int 0, .int 0]) (S' := SH ++ X) (V' := V2) rfl ?_
  refine wl_brT C rfl (by decide) rfl rfl ?_
  refine wl_go C hc hs 1 (pc' := 418) (l' := ((6, .int v) :: ((5, .int 0) :: [(0, .ref 999996), (1, .ref 0), (2, .ref 89), (3, .ref 118), (4, .int P)]))) (st' := [.int 0]) (S' := SH ++ X) (V' := V2) rfl ?_
  refine wl_brF C rfl (by decide) rfl (by decide) ?_
  refine wl_go C hc hs 6 (pc' := 428) (l' := ((6, .int v) :: ((5, .int 0) :: [(0, .ref 999996), (1, .ref 0), (2, .ref 89), (3, .ref 118), (4, .int P)]))) (st' := [.int (lg_cmp (gl V2 118 0) v.toInt64)]) (S' := SH ++ X) (V' := V2) rfl ?_
  refine wl_brT C rfl (by decide) rfl (by rw [hg]; exact lg_cmp_self _) ?_
  refine wl_go C hc hs 1 (pc' := 1610) (l' := ((6, .int v) :: ((5, .int 0) :: [(0, .ref 999996), (1, .ref 0), (2, .ref 89), (3, .ref 118), (4, .int P)]))) (st' := []) (S' := SH ++ X) (V' := V2) rfl ?_
  exact wl_sub [2, 3, 4, 5, 6] rfl kk

set_option maxRecDepth 20000 in
theorem lc_debt_x {p : Program} {L : Launch} {e : Env} {s : State} {m : MethodId} {args : Array Value} {below : List Frame} {meth : Method} {c : Code} {cells slots : Nat} {Q : State → Prop} {D : va_G} {E : Nat → ClassId} {r : Nat → Nat} {A : Nat → Prop} {n : Nat} {xs : Nat → Int32} (C : lw_C p L s m args meth c A r n xs) (hc : cells + 1 ≤ 194196) (hs : slots + 6 ≤ 8513518) {P : Int32} {u : Int32} {X : ai_S} {V V2 : ai_V} (i1 : vp_in (P + 1) n) (hw : nx_way L 257 [.ref 0, .int (xs (P + 1).toNatClampNeg)] (SH ++ X) V) (hm : d_M_debt (xs (P + 1).toNatClampNeg) V = some (u, V2)) (ht : d_M_thrown V2 = some 1) (kk : WL p L e s m args below meth c (cells + 1) (slots + 6) Q D E r A 1610 [(0, .ref 999996), (1, .ref 0), (2, .ref 89), (3, .ref 118), (4, .int P)] [] (SH ++ X) V2) : WL p L e s m args below meth c cells slots Q D E r A 380 [(0, .ref 999996), (1, .ref 0), (2, .ref 89), (3, .ref 118), (4, .int P)] [] (SH ++ X) V := by
  have hc0 : cells ≤ 194196 := by omega
  have hs0 : slots ≤ 8513518 := by omega
  refine wl_go C hc0 hs0 5 (pc' := 386) (l' := [(0, .ref 999996), (1, .ref 0), (2, .ref 89), (3, .ref 118), (4, .int P)]) (st' := [.int (P + 1), .ref 999996, .ref 0]) (S' := SH ++ X) (V' := V) rfl ?_
  refine wl_ld C i1 (by decide +kernel) ?_
  refine wl_go C hc0 hs0 1 (pc' := 388) (l' := [(0, .ref 999996), (1, .ref 0), (2, .ref 89), (3, .ref 118), (4, .int P)]) (st' := [.ref 118, .int (xs (P + 1).toNatClampNeg), .ref 0]) (S' := SH ++ X) (V' := V) rfl ?_
  refine wl_callH (n0 := 3) (as := [.ref 0, .int (xs (P + 1).toNatClampNeg), .ref 118]) (rest := []) (mc := 1) (ms := 6) C (hx_debt_x hw D E r) (by decide +kernel) gw_debt (by decide) (by decide) rfl rfl (by decide) hc hs ?_
  refine wl_go C hc hs 6 (pc' := 399) (l' := ((5, .int 1) :: [(0, .ref 999996), (1, .ref 0), (2, .ref 89), (3, .ref 118), (4, .int P)])) (st' := [.int (P + 1), .ref 999996, .ref 89]) (S' := SH ++ X) (V' := V) rfl ?_
  refine wl_ld C i1 (by decide +kernel) ?_
  refine wl_call (o := 89) (as := [.int (xs (P + 1).toNatClampNeg)]) (rest := []) C rfl (t_M_debt (X := X) (Nat.le_refl _) hm) rfl (by decide) rfl rfl rfl (by decide) hc hs ?_
  refine wl_go C hc hs 2 (pc' := 406) (l' := ((6, .int u) :: ((5, .int 1) :: [(0, .ref 999996), (1, .ref 0), (2, .ref 89), (3, .ref 118), (4, .int P)]))) (st' := [.ref 89]) (S' := SH ++ X) (V' := V2) rfl ?_
  refine wl_call (o := 89) (as := []) (rest := []) C rfl (t_M_thrown (X := X) (Nat.le_refl _) ht) rfl (by decide) rfl rfl rfl (by decide) hc hs ?_
  refine wl_go C hc hs 1 (pc' := 411) (l' := ((6, .int u) :: ((5, .int 1) :: [(0, .ref 999996), (1, .ref 0), (2, .ref 89), (3, .ref 118), (4, .int P)]))) (st' := [.int 1, .int 1]) (S' := SH ++ X) (V' := V2) rfl ?_
  refine wl_brT C rfl (by decide) rfl rfl ?_
  refine wl_go C hc hs 1 (pc' := 418) (l' := ((6, .int u) :: ((5, .int 1) :: [(0, .ref 999996), (1, .ref 0), (2, .ref 89), (3, .ref 118), (4, .int P)]))) (st' := [.int 1]) (S' := SH ++ X) (V' := V2) rfl ?_
  refine wl_brT C rfl (by decide) rfl (by decide) ?_
  refine wl_go C hc hs 1 (pc' := 1610) (l' := ((6, .int u) :: ((5, .int 1) :: [(0, .ref 999996), (1, .ref 0), (2, .ref 89), (3, .ref 118), (4, .int P)]))) (st' := []) (S' := SH ++ X) (V' := V2) rfl ?_
  exact wl_sub [2, 3, 4, 5, 6] rfl kk

set_option maxRecDepth 20000 in
theorem gw_row : GoodIn GW (va_wsS "RentByTheWheelLaw" 216 hx_yr (hx_ws hx_yr method_5_code 4 [(0, 8, 11, 13)])) := GW_hx (by decide +kernel)
set_option maxRecDepth 20000 in
theorem lc_row_r {p : Program} {L : Launch} {e : Env} {s : State} {m : MethodId} {args : Array Value} {below : List Frame} {meth : Method} {c : Code} {cells slots : Nat} {Q : State → Prop} {D : va_G} {E : Nat → ClassId} {r : Nat → Nat} {A : Nat → Prop} {n : Nat} {xs : Nat → Int32} (C : lw_C p L s m args meth c A r n xs) (hc : cells + 0 ≤ 194196) (hs : slots + 0 ≤ 8513518) {P : Int32} {v : Int64} {X : ai_S} {V V2 : ai_V} (i1 : vp_in (P + 1) n) (hx : d_X_row (xs (P + 1).toNatClampNeg) V = some v) (hm : d_M_row (xs (P + 1).toNatClampNeg) (sl V 118 0 v) = some (v, V2)) (ht : d_M_thrown V2 = some 0) (hg : gl V2 118 0 = v) (kk : WL p L e s m args below meth c (cells + 0) (slots + 0) Q D E r A 1610 [(0, .ref 999996), (1, .ref 0), (2, .ref 89), (3, .ref 118), (4, .int P)] [] (SH ++ X) V2) : WL p L e s m args below meth c cells slots Q D E r A 1555 [(0, .ref 999996), (1, .ref 0), (2, .ref 89), (3, .ref 118), (4, .int P)] [] (SH ++ X) V := by
  have hc0 : cells ≤ 194196 := by omega
  have hs0 : slots ≤ 8513518 := by omega
  refine wl_go C hc0 hs0 5 (pc' := 1561) (l' := [(0, .ref 999996), (1, .ref 0), (2, .ref 89), (3, .ref 118), (4, .int P)]) (st' := [.int (P + 1), .ref 999996, .ref 0]) (S' := SH ++ X) (V' := V) rfl ?_
  refine wl_ld C i1 (by decide +kernel) ?_
  refine wl_go C hc0 hs0 1 (pc' := 1563) (l' := [(0, .ref 999996), (1, .ref 0), (2, .ref 89), (3, .ref 118), (4, .int P)]) (st' := [.ref 118, .int (xs (P + 1).toNatClampNeg), .ref 0]) (S' := SH ++ X) (V' := V) rfl ?_
  refine wl_callH (n0 := 3) (as := [.ref 0, .int (xs (P + 1).toNatClampNeg), .ref 118]) (rest := []) (mc := 0) (ms := 0) C (hx_row_r hx D E r) (by decide +kernel) gw_row (by decide) (by decide) rfl rfl (by decide) hc hs ?_
  refine wl_go C hc hs 6 (pc' := 1574) (l' := ((5, .int 0) :: [(0, .ref 999996), (1, .ref 0), (2, .ref 89), (3, .ref 118), (4, .int P)])) (st' := [.int (P + 1), .ref 999996, .ref 89]) (S' := SH ++ X) (V' := (sl V 118 0 v)) rfl ?_
  refine wl_ld C i1 (by decide +kernel) ?_
  refine wl_call (o := 89) (as := [.int (xs (P + 1).toNatClampNeg)]) (rest := []) C rfl (t_M_row (X := X) (Nat.le_refl _) hm) rfl (by decide) rfl rfl rfl (by decide) hc hs ?_
  refine wl_go C hc hs 2 (pc' := 1581) (l' := ((6, .long v) :: ((5, .int 0) :: [(0, .ref 999996), (1, .ref 0), (2, .ref 89), (3, .ref 118), (4, .int P)]))) (st' := [.ref 89]) (S' := SH ++ X) (V' := V2) rfl ?_
  refine wl_call (o := 89) (as := []) (rest := []) C rfl (t_M_thrown (X := X) (Nat.le_refl _) ht) rfl (by decide) rfl rfl rfl (by decide) hc hs ?_
  refine wl_go C hc hs 1 (pc' := 1586) (l' := ((6, .long v) :: ((5, .int 0) :: [(0, .ref 999996), (1, .ref 0), (2, .ref 89), (3, .ref 118), (4, .int P)]))) (st' := [.int 0, .int 0]) (S' := SH ++ X) (V' := V2) rfl ?_
  refine wl_brT C rfl (by decide) rfl rfl ?_
  refine wl_go C hc hs 1 (pc' := 1593) (l' := ((6, .long v) :: ((5, .int 0) :: [(0, .ref 999996), (1, .ref 0), (2, .ref 89), (3, .ref 118), (4, .int P)]))) (st' := [.int 0]) (S' := SH ++ X) (V' := V2) rfl ?_
  refine wl_brF C rfl (by decide) rfl (by decide) ?_
  refine wl_go C hc hs 5 (pc' := 1602) (l' := ((6, .long v) :: ((5, .int 0) :: [(0, .ref 999996), (1, .ref 0), (2, .ref 89), (3, .ref 118), (4, .int P)]))) (st' := [.int (lg_cmp (gl V2 118 0) v)]) (S' := SH ++ X) (V' := V2) rfl ?_
  refine wl_brT C rfl (by decide) rfl (by rw [hg]; exact lg_cmp_self _) ?_
  refine wl_go C hc hs 1 (pc' := 1610) (l' := ((6, .long v) :: ((5, .int 0) :: [(0, .ref 999996), (1, .ref 0), (2, .ref 89), (3, .ref 118), (4, .int P)]))) (st' := []) (S' := SH ++ X) (V' := V2) rfl ?_
  exact wl_sub [2, 3, 4, 5, 6] rfl kk

set_option maxRecDepth 20000 in
theorem lc_row_x {p : Program} {L : Launch} {e : Env} {s : State} {m : MethodId} {args : Array Value} {below : List Frame} {meth : Method} {c : Code} {cells slots : Nat} {Q : State → Prop} {D : va_G} {E : Nat → ClassId} {r : Nat → Nat} {A : Nat → Prop} {n : Nat} {xs : Nat → Int32} (C : lw_C p L s m args meth c A r n xs) (hc : cells + 1 ≤ 194196) (hs : slots + 6 ≤ 8513518) {P : Int32} {u : Int64} {X : ai_S} {V V2 : ai_V} (i1 : vp_in (P + 1) n) (hw : nx_way L 258 [.ref 0, .int (xs (P + 1).toNatClampNeg)] (SH ++ X) V) (hm : d_M_row (xs (P + 1).toNatClampNeg) V = some (u, V2)) (ht : d_M_thrown V2 = some 1) (kk : WL p L e s m args below meth c (cells + 1) (slots + 6) Q D E r A 1610 [(0, .ref 999996), (1, .ref 0), (2, .ref 89), (3, .ref 118), (4, .int P)] [] (SH ++ X) V2) : WL p L e s m args below meth c cells slots Q D E r A 1555 [(0, .ref 999996), (1, .ref 0), (2, .ref 89), (3, .ref 118), (4, .int P)] [] (SH ++ X) V := by
  have hc0 : cells ≤ 194196 := by omega
  have hs0 : slots ≤ 8513518 := by omega
  refine wl_go C hc0 hs0 5 (pc' := 1561) (l' := [(0, .ref 999996), (1, .ref 0), (2, .ref 89), (3, .ref 118), (4, .int P)]) (st' := [.int (P + 1), .ref 999996, .ref 0]) (S' := SH ++ X) (V' := V) rfl ?_
  refine wl_ld C i1 (by decide +kernel) ?_
  refine wl_go C hc0 hs0 1 (pc' := 1563) (l' := [(0, .ref 999996), (1, .ref 0), (2, .ref 89), (3, .ref 118), (4, .int P)]) (st' := [.ref 118, .int (xs (P + 1).toNatClampNeg), .ref 0]) (S' := SH ++ X) (V' := V) rfl ?_
  refine wl_callH (n0 := 3) (as := [.ref 0, .int (xs (P + 1).toNatClampNeg), .ref 118]) (rest := []) (mc := 1) (ms := 6) C (hx_row_x hw D E r) (by decide +kernel) gw_row (by decide) (by decide) rfl rfl (by decide) hc hs ?_
  refine wl_go C hc hs 6 (pc' := 1574) (l' := ((5, .int 1) :: [(0, .ref 999996), (1, .ref 0), (2, .ref 89), (3, .ref 118), (4, .int P)])) (st' := [.int (P + 1), .ref 999996, .ref 89]) (S' := SH ++ X) (V' := V) rfl ?_
  refine wl_ld C i1 (by decide +kernel) ?_
  refine wl_call (o := 89) (as := [.int (xs (P + 1).toNatClampNeg)]) (rest := []) C rfl (t_M_row (X := X) (Nat.le_refl _) hm) rfl (by decide) rfl rfl rfl (by decide) hc hs ?_
  refine wl_go C hc hs 2 (pc' := 1581) (l' := ((6, .long u) :: ((5, .int 1) :: [(0, .ref 999996), (1, .ref 0), (2, .ref 89), (3, .ref 118), (4, .int P)]))) (st' := [.ref 89]) (S' := SH ++ X) (V' := V2) rfl ?_
  refine wl_call (o := 89) (as := []) (rest := []) C rfl (t_M_thrown (X := X) (Nat.le_refl _) ht) rfl (by decide) rfl rfl rfl (by decide) hc hs ?_
  refine wl_go C hc hs 1 (pc' := 1586) (l' := ((6, .long u) :: ((5, .int 1) :: [(0, .ref 999996), (1, .ref 0), (2, .ref 89), (3, .ref 118), (4, .int P)]))) (st' := [.int 1, .int 1]) (S' := SH ++ X) (V' := V2) rfl ?_
  refine wl_brT C rfl (by decide) rfl rfl ?_
  refine wl_go C hc hs 1 (pc' := 1593) (l' := ((6, .long u) :: ((5, .int 1) :: [(0, .ref 999996), (1, .ref 0), (2, .ref 89), (3, .ref 118), (4, .int P)]))) (st' := [.int 1]) (S' := SH ++ X) (V' := V2) rfl ?_
  refine wl_brT C rfl (by decide) rfl (by decide) ?_
  refine wl_go C hc hs 1 (pc' := 1610) (l' := ((6, .long u) :: ((5, .int 1) :: [(0, .ref 999996), (1, .ref 0), (2, .ref 89), (3, .ref 118), (4, .int P)]))) (st' := []) (S' := SH ++ X) (V' := V2) rfl ?_
  exact wl_sub [2, 3, 4, 5, 6] rfl kk

set_option maxRecDepth 20000 in
theorem lc_fewest_no {p : Program} {L : Launch} {e : Env} {s : State} {m : MethodId} {args : Array Value} {below : List Frame} {meth : Method} {c : Code} {cells slots : Nat} {Q : State → Prop} {D : va_G} {E : Nat → ClassId} {r : Nat → Nat} {A : Nat → Prop} {n : Nat} {xs : Nat → Int32} (C : lw_C p L s m args meth c A r n xs) (hc : cells ≤ 194196) (hs : slots ≤ 8513518) {P : Int32} {X : ai_S} {V V2 : ai_V} (i1 : vp_in (P + 1) n) (i2 : vp_in (P + 2) n) (hx : d_no_fewest (xs (P + 1).toNatClampNeg) (xs (P + 2).toNatClampNeg) V = some ()) (hm : d_M_fewest (xs (P + 1).toNatClampNeg) (xs (P + 2).toNatClampNeg) V = some (-1, V2)) (kk : WL p L e s m args below meth c cells slots Q D E r A 1610 [(0, .ref 999996), (1, .ref 0), (2, .ref 89), (3, .ref 118), (4, .int P)] [] (SH ++ X) V2) : WL p L e s m args below meth c cells slots Q D E r A 684 [(0, .ref 999996), (1, .ref 0), (2, .ref 89), (3, .ref 118), (4, .int P)] [] (SH ++ X) V := by
  refine wl_go C hc hs 5 (pc' := 690) (l' := [(0, .ref 999996), (1, .ref 0), (2, .ref 89), (3, .ref 118), (4, .int P)]) (st' := [.int (P + 1), .ref 999996, .ref 0]) (S' := SH ++ X) (V' := V) rfl ?_
  refine wl_ld C i1 (by decide +kernel) ?_
  refine wl_go C hc hs 4 (pc' := 696) (l' := [(0, .ref 999996), (1, .ref 0), (2, .ref 89), (3, .ref 118), (4, .int P)]) (st' := [.int (P + 2), .ref 999996, .int (xs (P + 1).toNatClampNeg), .ref 0]) (S' := SH ++ X) (V' := V) rfl ?_
  refine wl_ld C i2 (by decide +kernel) ?_
  refine wl_call (o := 0) (as := [.int (xs (P + 1).toNatClampNeg), .int (xs (P + 2).toNatClampNeg)]) (rest := []) C rfl (t0_no_fewest (X := X) (Nat.le_refl _) hx) rfl (by decide) rfl rfl rfl (by decide) hc hs ?_
  refine wl_go C hc hs 5 (pc' := 706) (l' := [(0, .ref 999996), (1, .ref 0), (2, .ref 89), (3, .ref 118), (4, .int P)]) (st' := [.int (P + 1), .ref 999996, .ref 89, .int (-1)]) (S' := SH ++ X) (V' := V) rfl ?_
  refine wl_ld C i1 (by decide +kernel) ?_
  refine wl_go C hc hs 4 (pc' := 712) (l' := [(0, .ref 999996), (1, .ref 0), (2, .ref 89), (3, .ref 118), (4, .int P)]) (st' := [.int (P + 2), .ref 999996, .int (xs (P + 1).toNatClampNeg), .ref 89, .int (-1)]) (S' := SH ++ X) (V' := V) rfl ?_
  refine wl_ld C i2 (by decide +kernel) ?_
  refine wl_call (o := 89) (as := [.int (xs (P + 1).toNatClampNeg), .int (xs (P + 2).toNatClampNeg)]) (rest := [.int (-1)]) C rfl (t_M_fewest (X := X) (Nat.le_refl _) hm) rfl (by decide) rfl rfl rfl (by decide) hc hs ?_
  exact wl_brT C rfl (by decide) rfl rfl kk

set_option maxRecDepth 20000 in
theorem lc_fewest_b {p : Program} {L : Launch} {e : Env} {s : State} {m : MethodId} {args : Array Value} {below : List Frame} {meth : Method} {c : Code} {cells slots : Nat} {Q : State → Prop} {D : va_G} {E : Nat → ClassId} {r : Nat → Nat} {A : Nat → Prop} {n : Nat} {xs : Nat → Int32} (C : lw_C p L s m args meth c A r n xs) (hc : cells ≤ 194196) (hs : slots ≤ 8513518) {P v : Int32} {X : ai_S} {V1 V2 : ai_V} (i1 : vp_in (P + 1) n) (i2 : vp_in (P + 2) n) (hm : d_M_fewest (xs (P + 1).toNatClampNeg) (xs (P + 2).toNatClampNeg) V1 = some (v, V2)) (kk : WL p L e s m args below meth c cells slots Q D E r A 1610 [(0, .ref 999996), (1, .ref 0), (2, .ref 89), (3, .ref 118), (4, .int P)] [] (SH ++ X) V2) : WL p L e s m args below meth c cells slots Q D E r A 700 [(0, .ref 999996), (1, .ref 0), (2, .ref 89), (3, .ref 118), (4, .int P)] [.int v] (SH ++ X) V1 := by
  refine wl_go C hc hs 5 (pc' := 706) (l' := [(0, .ref 999996), (1, .ref 0), (2, .ref 89), (3, .ref 118), (4, .int P)]) (st' := [.int (P + 1), .ref 999996, .ref 89, .int v]) (S' := SH ++ X) (V' := V1) rfl ?_
  refine wl_ld C i1 (by decide +kernel) ?_
  refine wl_go C hc hs 4 (pc' := 712) (l' := [(0, .ref 999996), (1, .ref 0), (2, .ref 89), (3, .ref 118), (4, .int P)]) (st' := [.int (P + 2), .ref 999996, .int (xs (P + 1).toNatClampNeg), .ref 89, .int v]) (S' := SH ++ X) (V' := V1) rfl ?_
  refine wl_ld C i2 (by decide +kernel) ?_
  refine wl_call (o := 89) (as := [.int (xs (P + 1).toNatClampNeg), .int (xs (P + 2).toNatClampNeg)]) (rest := [.int v]) C rfl (t_M_fewest (X := X) (Nat.le_refl _) hm) rfl (by decide) rfl rfl rfl (by decide) hc hs ?_
  exact wl_brT C rfl (by decide) rfl rfl kk

set_option maxRecDepth 20000 in
theorem lc_fewest_0 {p : Program} {L : Launch} {e : Env} {s : State} {m : MethodId} {args : Array Value} {below : List Frame} {meth : Method} {c : Code} {cells slots : Nat} {Q : State → Prop} {D : va_G} {E : Nat → ClassId} {r : Nat → Nat} {A : Nat → Prop} {n : Nat} {xs : Nat → Int32} (C : lw_C p L s m args meth c A r n xs) (hc : cells + 1 ≤ 194196) (hs : slots + 12000 ≤ 8513518) {P v : Int32} {V V1 V2 : ai_V} (i1 : vp_in (P + 1) n) (i2 : vp_in (P + 2) n) (h1 : gr V 64 2 = some 68) (h2 : gr V 89 15 = none ∨ gr V 89 15 = some 96 ∨ gr V 89 15 = some 99) (hx : d0_X_fewest (xs (P + 1).toNatClampNeg) (xs (P + 2).toNatClampNeg) V = some (v, V1)) (hm : d_M_fewest (xs (P + 1).toNatClampNeg) (xs (P + 2).toNatClampNeg) V1 = some (v, V2))
    (kk : ∀ r' : Nat → Nat, ai_Ag (SH ++ []).length (SH ++ [kcost]).length r r' → WL p L e s m args below meth c (cells + 1) (slots + 12000) Q D E r' A 1610 [(0, .ref 999996), (1, .ref 0), (2, .ref 89), (3, .ref 118), (4, .int P)] [] (SH ++ [kcost]) V2) : WL p L e s m args below meth c cells slots Q D E r A 684 [(0, .ref 999996), (1, .ref 0), (2, .ref 89), (3, .ref 118), (4, .int P)] [] (SH ++ []) V := by
  have hc0 : cells ≤ 194196 := by omega
  have hs0 : slots ≤ 8513518 := by omega
  refine wl_go C hc0 hs0 5 (pc' := 690) (l' := [(0, .ref 999996), (1, .ref 0), (2, .ref 89), (3, .ref 118), (4, .int P)]) (st' := [.int (P + 1), .ref 999996, .ref 0]) (S' := SH ++ []) (V' := V) rfl ?_
  refine wl_ld C i1 (by decide +kernel) ?_
  refine wl_go C hc0 hs0 4 (pc' := 696) (l' := [(0, .ref 999996), (1, .ref 0), (2, .ref 89), (3, .ref 118), (4, .int P)]) (st' := [.int (P + 2), .ref 999996, .int (xs (P + 1).toNatClampNeg), .ref 0]) (S' := SH ++ []) (V' := V) rfl ?_
  refine wl_ld C i2 (by decide +kernel) ?_
  refine wl_callA (o := 0) (as := [.int (xs (P + 1).toNatClampNeg), .int (xs (P + 2).toNatClampNeg)]) (rest := []) C rfl (t0_X_fewest (Nat.le_refl _) h1 h2 hx) rfl (by decide) rfl rfl rfl (by decide) hc hs ?_
  intro r' hr' H locs ls hW hl
  refine lc_fewest_b (C.move hr') (cells := cells + 1) (slots := slots + 12000) hc hs (X := [kcost]) i1 i2 hm (kk r' hr') H locs ls hW ?_
  have e9 := hr'.2 999996 (Or.inr (by decide))
  have e0 := hr'.2 0 (Or.inl (by decide))
  have e1 := hr'.2 89 (Or.inl (by decide))
  have e2 := hr'.2 118 (Or.inl (by decide))
  simp only [ai_lm, List.map_cons, List.map_nil, ai_cv, e9, e0, e1, e2] at hl ⊢
  exact hl

set_option maxRecDepth 20000 in
theorem lc_driest_no {p : Program} {L : Launch} {e : Env} {s : State} {m : MethodId} {args : Array Value} {below : List Frame} {meth : Method} {c : Code} {cells slots : Nat} {Q : State → Prop} {D : va_G} {E : Nat → ClassId} {r : Nat → Nat} {A : Nat → Prop} {n : Nat} {xs : Nat → Int32} (C : lw_C p L s m args meth c A r n xs) (hc : cells ≤ 194196) (hs : slots ≤ 8513518) {P : Int32} {X : ai_S} {V V2 : ai_V} (i1 : vp_in (P + 1) n) (i2 : vp_in (P + 2) n) (hx : d_no_driest (xs (P + 1).toNatClampNeg) (xs (P + 2).toNatClampNeg) V = some ()) (hm : d_M_driest (xs (P + 1).toNatClampNeg) (xs (P + 2).toNatClampNeg) V = some (-1, V2)) (kk : WL p L e s m args below meth c cells slots Q D E r A 1610 [(0, .ref 999996), (1, .ref 0), (2, .ref 89), (3, .ref 118), (4, .int P)] [] (SH ++ X) V2) : WL p L e s m args below meth c cells slots Q D E r A 721 [(0, .ref 999996), (1, .ref 0), (2, .ref 89), (3, .ref 118), (4, .int P)] [] (SH ++ X) V := by
  refine wl_go C hc hs 5 (pc' := 727) (l' := [(0, .ref 999996), (1, .ref 0), (2, .ref 89), (3, .ref 118), (4, .int P)]) (st' := [.int (P + 1), .ref 999996, .ref 0]) (S' := SH ++ X) (V' := V) rfl ?_
  refine wl_ld C i1 (by decide +kernel) ?_
  refine wl_go C hc hs 4 (pc' := 733) (l' := [(0, .ref 999996), (1, .ref 0), (2, .ref 89), (3, .ref 118), (4, .int P)]) (st' := [.int (P + 2), .ref 999996, .int (xs (P + 1).toNatClampNeg), .ref 0]) (S' := SH ++ X) (V' := V) rfl ?_
  refine wl_ld C i2 (by decide +kernel) ?_
  refine wl_call (o := 0) (as := [.int (xs (P + 1).toNatClampNeg), .int (xs (P + 2).toNatClampNeg)]) (rest := []) C rfl (t0_no_driest (X := X) (Nat.le_refl _) hx) rfl (by decide) rfl rfl rfl (by decide) hc hs ?_
  refine wl_go C hc hs 5 (pc' := 743) (l' := [(0, .ref 999996), (1, .ref 0), (2, .ref 89), (3, .ref 118), (4, .int P)]) (st' := [.int (P + 1), .ref 999996, .ref 89, .int (-1)]) (S' := SH ++ X) (V' := V) rfl ?_
  refine wl_ld C i1 (by decide +kernel) ?_
  refine wl_go C hc hs 4 (pc' := 749) (l' := [(0, .ref 999996), (1, .ref 0), (2, .ref 89), (3, .ref 118), (4, .int P)]) (st' := [.int (P + 2), .ref 999996, .int (xs (P + 1).toNatClampNeg), .ref 89, .int (-1)]) (S' := SH ++ X) (V' := V) rfl ?_
  refine wl_ld C i2 (by decide +kernel) ?_
  refine wl_call (o := 89) (as := [.int (xs (P + 1).toNatClampNeg), .int (xs (P + 2).toNatClampNeg)]) (rest := [.int (-1)]) C rfl (t_M_driest (X := X) (Nat.le_refl _) hm) rfl (by decide) rfl rfl rfl (by decide) hc hs ?_
  exact wl_brT C rfl (by decide) rfl rfl kk

set_option maxRecDepth 20000 in
theorem lc_driest_b {p : Program} {L : Launch} {e : Env} {s : State} {m : MethodId} {args : Array Value} {below : List Frame} {meth : Method} {c : Code} {cells slots : Nat} {Q : State → Prop} {D : va_G} {E : Nat → ClassId} {r : Nat → Nat} {A : Nat → Prop} {n : Nat} {xs : Nat → Int32} (C : lw_C p L s m args meth c A r n xs) (hc : cells ≤ 194196) (hs : slots ≤ 8513518) {P v : Int32} {X : ai_S} {V1 V2 : ai_V} (i1 : vp_in (P + 1) n) (i2 : vp_in (P + 2) n) (hm : d_M_driest (xs (P + 1).toNatClampNeg) (xs (P + 2).toNatClampNeg) V1 = some (v, V2)) (kk : WL p L e s m args below meth c cells slots Q D E r A 1610 [(0, .ref 999996), (1, .ref 0), (2, .ref 89), (3, .ref 118), (4, .int P)] [] (SH ++ X) V2) : WL p L e s m args below meth c cells slots Q D E r A 737 [(0, .ref 999996), (1, .ref 0), (2, .ref 89), (3, .ref 118), (4, .int P)] [.int v] (SH ++ X) V1 := by
  refine wl_go C hc hs 5 (pc' := 743) (l' := [(0, .ref 999996), (1, .ref 0), (2, .ref 89), (3, .ref 118), (4, .int P)]) (st' := [.int (P + 1), .ref 999996, .ref 89, .int v]) (S' := SH ++ X) (V' := V1) rfl ?_
  refine wl_ld C i1 (by decide +kernel) ?_
  refine wl_go C hc hs 4 (pc' := 749) (l' := [(0, .ref 999996), (1, .ref 0), (2, .ref 89), (3, .ref 118), (4, .int P)]) (st' := [.int (P + 2), .ref 999996, .int (xs (P + 1).toNatClampNeg), .ref 89, .int v]) (S' := SH ++ X) (V' := V1) rfl ?_
  refine wl_ld C i2 (by decide +kernel) ?_
  refine wl_call (o := 89) (as := [.int (xs (P + 1).toNatClampNeg), .int (xs (P + 2).toNatClampNeg)]) (rest := [.int v]) C rfl (t_M_driest (X := X) (Nat.le_refl _) hm) rfl (by decide) rfl rfl rfl (by decide) hc hs ?_
  exact wl_brT C rfl (by decide) rfl rfl kk

set_option maxRecDepth 20000 in
theorem lc_driest_0 {p : Program} {L : Launch} {e : Env} {s : State} {m : MethodId} {args : Array Value} {below : List Frame} {meth : Method} {c : Code} {cells slots : Nat} {Q : State → Prop} {D : va_G} {E : Nat → ClassId} {r : Nat → Nat} {A : Nat → Prop} {n : Nat} {xs : Nat → Int32} (C : lw_C p L s m args meth c A r n xs) (hc : cells + 1 ≤ 194196) (hs : slots + 12000 ≤ 8513518) {P v : Int32} {V V1 V2 : ai_V} (i1 : vp_in (P + 1) n) (i2 : vp_in (P + 2) n) (h1 : gr V 64 2 = some 68) (h2 : gr V 89 15 = none ∨ gr V 89 15 = some 96 ∨ gr V 89 15 = some 99) (hx : d0_X_driest (xs (P + 1).toNatClampNeg) (xs (P + 2).toNatClampNeg) V = some (v, V1)) (hm : d_M_driest (xs (P + 1).toNatClampNeg) (xs (P + 2).toNatClampNeg) V1 = some (v, V2))
    (kk : ∀ r' : Nat → Nat, ai_Ag (SH ++ []).length (SH ++ [kcost]).length r r' → WL p L e s m args below meth c (cells + 1) (slots + 12000) Q D E r' A 1610 [(0, .ref 999996), (1, .ref 0), (2, .ref 89), (3, .ref 118), (4, .int P)] [] (SH ++ [kcost]) V2) : WL p L e s m args below meth c cells slots Q D E r A 721 [(0, .ref 999996), (1, .ref 0), (2, .ref 89), (3, .ref 118), (4, .int P)] [] (SH ++ []) V := by
  have hc0 : cells ≤ 194196 := by omega
  have hs0 : slots ≤ 8513518 := by omega
  refine wl_go C hc0 hs0 5 (pc' := 727) (l' := [(0, .ref 999996), (1, .ref 0), (2, .ref 89), (3, .ref 118), (4, .int P)]) (st' := [.int (P + 1), .ref 999996, .ref 0]) (S' := SH ++ []) (V' := V) rfl ?_
  refine wl_ld C i1 (by decide +kernel) ?_
  refine wl_go C hc0 hs0 4 (pc' := 733) (l' := [(0, .ref 999996), (1, .ref 0), (2, .ref 89), (3, .ref 118), (4, .int P)]) (st' := [.int (P + 2), .ref 999996, .int (xs (P + 1).toNatClampNeg), .ref 0]) (S' := SH ++ []) (V' := V) rfl ?_
  refine wl_ld C i2 (by decide +kernel) ?_
  refine wl_callA (o := 0) (as := [.int (xs (P + 1).toNatClampNeg), .int (xs (P + 2).toNatClampNeg)]) (rest := []) C rfl (t0_X_driest (Nat.le_refl _) h1 h2 hx) rfl (by decide) rfl rfl rfl (by decide) hc hs ?_
  intro r' hr' H locs ls hW hl
  refine lc_driest_b (C.move hr') (cells := cells + 1) (slots := slots + 12000) hc hs (X := [kcost]) i1 i2 hm (kk r' hr') H locs ls hW ?_
  have e9 := hr'.2 999996 (Or.inr (by decide))
  have e0 := hr'.2 0 (Or.inl (by decide))
  have e1 := hr'.2 89 (Or.inl (by decide))
  have e2 := hr'.2 118 (Or.inl (by decide))
  simp only [ai_lm, List.map_cons, List.map_nil, ai_cv, e9, e0, e1, e2] at hl ⊢
  exact hl

