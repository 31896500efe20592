/-! ===== printed by wip/gen/cases.py: the cases of the law, from their first rows to row 1610 ===== -/
set_option maxRecDepth 20000 in
theorem lc_sign {p : Program} {L : Launch} {e : Env} {s : State} {m : MethodId} {args : Array Value} {below : List Frame} {meth : Method} {c : Code} {cells slots : Nat} {Q : State → Prop} {D : va_G} {E : Nat → ClassId} {r : Nat → Nat} {A : Nat → Prop} {n : Nat} {xs : Nat → Int32} (C : lw_C p L s m args meth c A r n xs) (hc : cells ≤ 194196) (hs : slots ≤ 8513518) {P v : Int32} {X : ai_S} {V V1 V2 : ai_V} (i1 : vp_in (P + 1) n) (hx : d_X_sign (xs (P + 1).toNatClampNeg) V = some (v, V1)) (hm : d_M_sign (xs (P + 1).toNatClampNeg) V1 = some (v, V2)) (kk : WL p L e s m args below meth c cells slots Q D E r A 1610 [(0, .ref 999996), (1, .ref 0), (2, .ref 89), (3, .ref 118), (4, .int P)] [] (SH ++ X) V2) : WL p L e s m args below meth c cells slots Q D E r A 236 [(0, .ref 999996), (1, .ref 0), (2, .ref 89), (3, .ref 118), (4, .int P)] [] (SH ++ X) V := by
  refine wl_go C hc hs 5 (pc' := 242) (l' := [(0, .ref 999996), (1, .ref 0), (2, .ref 89), (3, .ref 118), (4, .int P)]) (st' := [.int (P + 1), .ref 999996, .ref 0]) (S' := SH ++ X) (V' := V) rfl ?_
  refine wl_ld C i1 (by decide +kernel) ?_
  refine wl_call (o := 0) (as := [.int (xs (P + 1).toNatClampNeg)]) (rest := []) C rfl (t_X_sign (X := X) (Nat.le_refl _) hx) rfl (by decide) rfl rfl rfl (by decide) hc hs ?_
  refine wl_go C hc hs 5 (pc' := 252) (l' := [(0, .ref 999996), (1, .ref 0), (2, .ref 89), (3, .ref 118), (4, .int P)]) (st' := [.int (P + 1), .ref 999996, .ref 89, .int v]) (S' := SH ++ X) (V' := V1) rfl ?_
  refine wl_ld C i1 (by decide +kernel) ?_
  refine wl_call (o := 89) (as := [.int (xs (P + 1).toNatClampNeg)]) (rest := [.int v]) C rfl (t_M_sign (X := X) (Nat.le_refl _) hm) rfl (by decide) rfl rfl rfl (by decide) hc hs ?_
  exact wl_brT C rfl (by decide) rfl rfl kk

set_option maxRecDepth 20000 in
theorem lc_end {p : Program} {L : Launch} {e : Env} {s : State} {m : MethodId} {args : Array Value} {below : List Frame} {meth : Method} {c : Code} {cells slots : Nat} {Q : State → Prop} {D : va_G} {E : Nat → ClassId} {r : Nat → Nat} {A : Nat → Prop} {n : Nat} {xs : Nat → Int32} (C : lw_C p L s m args meth c A r n xs) (hc : cells ≤ 194196) (hs : slots ≤ 8513518) {P v : Int32} {X : ai_S} {V V1 V2 : ai_V} (i1 : vp_in (P + 1) n) (hx : d_X_end (xs (P + 1).toNatClampNeg) V = some (v, V1)) (hm : d_M_end (xs (P + 1).toNatClampNeg) V1 = some (v, V2)) (kk : WL p L e s m args below meth c cells slots Q D E r A 1610 [(0, .ref 999996), (1, .ref 0), (2, .ref 89), (3, .ref 118), (4, .int P)] [] (SH ++ X) V2) : WL p L e s m args below meth c cells slots Q D E r A 261 [(0, .ref 999996), (1, .ref 0), (2, .ref 89), (3, .ref 118), (4, .int P)] [] (SH ++ X) V := by
  refine wl_go C hc hs 5 (pc' := 267) (l' := [(0, .ref 999996), (1, .ref 0), (2, .ref 89), (3, .ref 118), (4, .int P)]) (st' := [.int (P + 1), .ref 999996, .ref 0]) (S' := SH ++ X) (V' := V) rfl ?_
  refine wl_ld C i1 (by decide +kernel) ?_
  refine wl_call (o := 0) (as := [.int (xs (P + 1).toNatClampNeg)]) (rest := []) C rfl (t_X_end (X := X) (Nat.le_refl _) hx) rfl (by decide) rfl rfl rfl (by decide) hc hs ?_
  refine wl_go C hc hs 5 (pc' := 277) (l' := [(0, .ref 999996), (1, .ref 0), (2, .ref 89), (3, .ref 118), (4, .int P)]) (st' := [.int (P + 1), .ref 999996, .ref 89, .int v]) (S' := SH ++ X) (V' := V1) rfl ?_
  refine wl_ld C i1 (by decide +kernel) ?_
  refine wl_call (o := 89) (as := [.int (xs (P + 1).toNatClampNeg)]) (rest := [.int v]) C rfl (t_M_end (X := X) (Nat.le_refl _) hm) rfl (by decide) rfl rfl rfl (by decide) hc hs ?_
  exact wl_brT C rfl (by decide) rfl rfl kk

set_option maxRecDepth 20000 in
theorem lc_house {p : Program} {L : Launch} {e : Env} {s : State} {m : MethodId} {args : Array Value} {below : List Frame} {meth : Method} {c : Code} {cells slots : Nat} {Q : State → Prop} {D : va_G} {E : Nat → ClassId} {r : Nat → Nat} {A : Nat → Prop} {n : Nat} {xs : Nat → Int32} (C : lw_C p L s m args meth c A r n xs) (hc : cells ≤ 194196) (hs : slots ≤ 8513518) {P v : Int32} {X : ai_S} {V V1 V2 : ai_V}  (hx : d_X_house  V = some (v, V1)) (hm : d_M_house  V1 = some (v, V2)) (kk : WL p L e s m args below meth c cells slots Q D E r A 1610 [(0, .ref 999996), (1, .ref 0), (2, .ref 89), (3, .ref 118), (4, .int P)] [] (SH ++ X) V2) : WL p L e s m args below meth c cells slots Q D E r A 286 [(0, .ref 999996), (1, .ref 0), (2, .ref 89), (3, .ref 118), (4, .int P)] [] (SH ++ X) V := by
  refine wl_go C hc hs 1 (pc' := 287) (l' := [(0, .ref 999996), (1, .ref 0), (2, .ref 89), (3, .ref 118), (4, .int P)]) (st' := [.ref 0]) (S' := SH ++ X) (V' := V) rfl ?_
  refine wl_call (o := 0) (as := []) (rest := []) C rfl (t_X_house (X := X) (Nat.le_refl _) hx) rfl (by decide) rfl rfl rfl (by decide) hc hs ?_
  refine wl_go C hc hs 1 (pc' := 291) (l' := [(0, .ref 999996), (1, .ref 0), (2, .ref 89), (3, .ref 118), (4, .int P)]) (st' := [.ref 89, .int v]) (S' := SH ++ X) (V' := V1) rfl ?_
  refine wl_call (o := 89) (as := []) (rest := [.int v]) C rfl (t_M_house (X := X) (Nat.le_refl _) hm) rfl (by decide) rfl rfl rfl (by decide) hc hs ?_
  exact wl_brT C rfl (by decide) rfl rfl kk

set_option maxRecDepth 20000 in
theorem lc_rule {p : Program} {L : Launch} {e : Env} {s : State} {m : MethodId} {args : Array Value} {below : List Frame} {meth : Method} {c : Code} {cells slots : Nat} {Q : State → Prop} {D : va_G} {E : Nat → ClassId} {r : Nat → Nat} {A : Nat → Prop} {n : Nat} {xs : Nat → Int32} (C : lw_C p L s m args meth c A r n xs) (hc : cells ≤ 194196) (hs : slots ≤ 8513518) {P v : Int32} {X : ai_S} {V V1 V2 : ai_V}  (hx : d_X_rule  V = some (v, V1)) (hm : d_M_rule  V1 = some (v, V2)) (kk : WL p L e s m args below meth c cells slots Q D E r A 1610 [(0, .ref 999996), (1, .ref 0), (2, .ref 89), (3, .ref 118), (4, .int P)] [] (SH ++ X) V2) : WL p L e s m args below meth c cells slots Q D E r A 299 [(0, .ref 999996), (1, .ref 0), (2, .ref 89), (3, .ref 118), (4, .int P)] [] (SH ++ X) V := by
  refine wl_go C hc hs 1 (pc' := 300) (l' := [(0, .ref 999996), (1, .ref 0), (2, .ref 89), (3, .ref 118), (4, .int P)]) (st' := [.ref 0]) (S' := SH ++ X) (V' := V) rfl ?_
  refine wl_call (o := 0) (as := []) (rest := []) C rfl (t_X_rule (X := X) (Nat.le_refl _) hx) rfl (by decide) rfl rfl rfl (by decide) hc hs ?_
  refine wl_go C hc hs 1 (pc' := 304) (l' := [(0, .ref 999996), (1, .ref 0), (2, .ref 89), (3, .ref 118), (4, .int P)]) (st' := [.ref 89, .int v]) (S' := SH ++ X) (V' := V1) rfl ?_
  refine wl_call (o := 89) (as := []) (rest := [.int v]) C rfl (t_M_rule (X := X) (Nat.le_refl _) hm) rfl (by decide) rfl rfl rfl (by decide) hc hs ?_
  exact wl_brT C rfl (by decide) rfl rfl kk

set_option maxRecDepth 20000 in
theorem lc_lifts {p : Program} {L : Launch} {e : Env} {s : State} {m : MethodId} {args : Array Value} {below : List Frame} {meth : Method} {c : Code} {cells slots : Nat} {Q : State → Prop} {D : va_G} {E : Nat → ClassId} {r : Nat → Nat} {A : Nat → Prop} {n : Nat} {xs : Nat → Int32} (C : lw_C p L s m args meth c A r n xs) (hc : cells ≤ 194196) (hs : slots ≤ 8513518) {P v : Int32} {X : ai_S} {V V1 V2 : ai_V} (i1 : vp_in (P + 1) n) (i2 : vp_in (P + 2) n) (hx : d_X_lifts (xs (P + 1).toNatClampNeg) (xs (P + 2).toNatClampNeg) V = some (v, V1)) (hm : d_M_lifts (xs (P + 1).toNatClampNeg) (xs (P + 2).toNatClampNeg) V1 = some (v, V2)) (kk : WL p L e s m args below meth c cells slots Q D E r A 1610 [(0, .ref 999996), (1, .ref 0), (2, .ref 89), (3, .ref 118), (4, .int P)] [] (SH ++ X) V2) : WL p L e s m args below meth c cells slots Q D E r A 436 [(0, .ref 999996), (1, .ref 0), (2, .ref 89), (3, .ref 118), (4, .int P)] [] (SH ++ X) V := by
  refine wl_go C hc hs 5 (pc' := 442) (l' := [(0, .ref 999996), (1, .ref 0), (2, .ref 89), (3, .ref 118), (4, .int P)]) (st' := [.int (P + 1), .ref 999996, .ref 0]) (S' := SH ++ X) (V' := V) rfl ?_
  refine wl_ld C i1 (by decide +kernel) ?_
  refine wl_go C hc hs 4 (pc' := 448) (l' := [(0, .ref 999996), (1, .ref 0), (2, .ref 89), (3, .ref 118), (4, .int P)]) (st' := [.int (P + 2), .ref 999996, .int (xs (P + 1).toNatClampNeg), .ref 0]) (S' := SH ++ X) (V' := V) rfl ?_
  refine wl_ld C i2 (by decide +kernel) ?_
  refine wl_call (o := 0) (as := [.int (xs (P + 1).toNatClampNeg), .int (xs (P + 2).toNatClampNeg)]) (rest := []) C rfl (t_X_lifts (X := X) (Nat.le_refl _) hx) rfl (by decide) rfl rfl rfl (by decide) hc hs ?_
  refine wl_go C hc hs 5 (pc' := 458) (l' := [(0, .ref 999996), (1, .ref 0), (2, .ref 89), (3, .ref 118), (4, .int P)]) (st' := [.int (P + 1), .ref 999996, .ref 89, .int v]) (S' := SH ++ X) (V' := V1) rfl ?_
  refine wl_ld C i1 (by decide +kernel) ?_
  refine wl_go C hc hs 4 (pc' := 464) (l' := [(0, .ref 999996), (1, .ref 0), (2, .ref 89), (3, .ref 118), (4, .int P)]) (st' := [.int (P + 2), .ref 999996, .int (xs (P + 1).toNatClampNeg), .ref 89, .int v]) (S' := SH ++ X) (V' := V1) rfl ?_
  refine wl_ld C i2 (by decide +kernel) ?_
  refine wl_call (o := 89) (as := [.int (xs (P + 1).toNatClampNeg), .int (xs (P + 2).toNatClampNeg)]) (rest := [.int v]) C rfl (t_M_lifts (X := X) (Nat.le_refl _) hm) rfl (by decide) rfl rfl rfl (by decide) hc hs ?_
  exact wl_brT C rfl (by decide) rfl rfl kk

set_option maxRecDepth 20000 in
theorem lc_set {p : Program} {L : Launch} {e : Env} {s : State} {m : MethodId} {args : Array Value} {below : List Frame} {meth : Method} {c : Code} {cells slots : Nat} {Q : State → Prop} {D : va_G} {E : Nat → ClassId} {r : Nat → Nat} {A : Nat → Prop} {n : Nat} {xs : Nat → Int32} (C : lw_C p L s m args meth c A r n xs) (hc : cells ≤ 194196) (hs : slots ≤ 8513518) {P v : Int32} {X : ai_S} {V V1 V2 : ai_V} (i1 : vp_in (P + 1) n) (i2 : vp_in (P + 2) n) (hx : d_X_set (xs (P + 1).toNatClampNeg) (xs (P + 2).toNatClampNeg) V = some (v, V1)) (hm : d_M_set (xs (P + 1).toNatClampNeg) (xs (P + 2).toNatClampNeg) V1 = some (v, V2)) (kk : WL p L e s m args below meth c cells slots Q D E r A 1610 [(0, .ref 999996), (1, .ref 0), (2, .ref 89), (3, .ref 118), (4, .int P)] [] (SH ++ X) V2) : WL p L e s m args below meth c cells slots Q D E r A 473 [(0, .ref 999996), (1, .ref 0), (2, .ref 89), (3, .ref 118), (4, .int P)] [] (SH ++ X) V := by
  refine wl_go C hc hs 5 (pc' := 479) (l' := [(0, .ref 999996), (1, .ref 0), (2, .ref 89), (3, .ref 118), (4, .int P)]) (st' := [.int (P + 1), .ref 999996, .ref 0]) (S' := SH ++ X) (V' := V) rfl ?_
  refine wl_ld C i1 (by decide +kernel) ?_
  refine wl_go C hc hs 4 (pc' := 485) (l' := [(0, .ref 999996), (1, .ref 0), (2, .ref 89), (3, .ref 118), (4, .int P)]) (st' := [.int (P + 2), .ref 999996, .int (xs (P + 1).toNatClampNeg), .ref 0]) (S' := SH ++ X) (V' := V) rfl ?_
  refine wl_ld C i2 (by decide +kernel) ?_
  refine wl_call (o := 0) (as := [.int (xs (P + 1).toNatClampNeg), .int (xs (P + 2).toNatClampNeg)]) (rest := []) C rfl (t_X_set (X := X) (Nat.le_refl _) hx) rfl (by decide) rfl rfl rfl (by decide) hc hs ?_
  refine wl_go C hc hs 5 (pc' := 495) (l' := [(0, .ref 999996), (1, .ref 0), (2, .ref 89), (3, .ref 118), (4, .int P)]) (st' := [.int (P + 1), .ref 999996, .ref 89, .int v]) (S' := SH ++ X) (V' := V1) rfl ?_
  refine wl_ld C i1 (by decide +kernel) ?_
  refine wl_go C hc hs 4 (pc' := 501) (l' := [(0, .ref 999996), (1, .ref 0), (2, .ref 89), (3, .ref 118), (4, .int P)]) (st' := [.int (P + 2), .ref 999996, .int (xs (P + 1).toNatClampNeg), .ref 89, .int v]) (S' := SH ++ X) (V' := V1) rfl ?_
  refine wl_ld C i2 (by decide +kernel) ?_
  refine wl_call (o := 89) (as := [.int (xs (P + 1).toNatClampNeg), .int (xs (P + 2).toNatClampNeg)]) (rest := [.int v]) C rfl (t_M_set (X := X) (Nat.le_refl _) hm) rfl (by decide) rfl rfl rfl (by decide) hc hs ?_
  exact wl_brT C rfl (by decide) rfl rfl kk

set_option maxRecDepth 20000 in
theorem lc_brake {p : Program} {L : Launch} {e : Env} {s : State} {m : MethodId} {args : Array Value} {below : List Frame} {meth : Method} {c : Code} {cells slots : Nat} {Q : State → Prop} {D : va_G} {E : Nat → ClassId} {r : Nat → Nat} {A : Nat → Prop} {n : Nat} {xs : Nat → Int32} (C : lw_C p L s m args meth c A r n xs) (hc : cells ≤ 194196) (hs : slots ≤ 8513518) {P v : Int32} {X : ai_S} {V V1 V2 : ai_V} (i1 : vp_in (P + 1) n) (i2 : vp_in (P + 2) n) (hx : d_X_brake (xs (P + 1).toNatClampNeg) (xs (P + 2).toNatClampNeg) V = some (v, V1)) (hm : d_M_brake (xs (P + 1).toNatClampNeg) (xs (P + 2).toNatClampNeg) V1 = some (v, V2)) (kk : WL p L e s m args below meth c cells slots Q D E r A 1610 [(0, .ref 999996), (1, .ref 0), (2, .ref 89), (3, .ref 118), (4, .int P)] [] (SH ++ X) V2) : WL p L e s m args below meth c cells slots Q D E r A 510 [(0, .ref 999996), (1, .ref 0), (2, .ref 89), (3, .ref 118), (4, .int P)] [] (SH ++ X) V := by
  refine wl_go C hc hs 5 (pc' := 516) (l' := [(0, .ref 999996), (1, .ref 0), (2, .ref 89), (3, .ref 118), (4, .int P)]) (st' := [.int (P + 1), .ref 999996, .ref 0]) (S' := SH ++ X) (V' := V) rfl ?_
  refine wl_ld C i1 (by decide +kernel) ?_
  refine wl_go C hc hs 4 (pc' := 522) (l' := [(0, .ref 999996), (1, .ref 0), (2, .ref 89), (3, .ref 118), (4, .int P)]) (st' := [.int (P + 2), .ref 999996, .int (xs (P + 1).toNatClampNeg), .ref 0]) (S' := SH ++ X) (V' := V) rfl ?_
  refine wl_ld C i2 (by decide +kernel) ?_
  refine wl_call (o := 0) (as := [.int (xs (P + 1).toNatClampNeg), .int (xs (P + 2).toNatClampNeg)]) (rest := []) C rfl (t_X_brake (X := X) (Nat.le_refl _) hx) rfl (by decide) rfl rfl rfl (by decide) hc hs ?_
  refine wl_go C hc hs 5 (pc' := 532) (l' := [(0, .ref 999996), (1, .ref 0), (2, .ref 89), (3, .ref 118), (4, .int P)]) (st' := [.int (P + 1), .ref 999996, .ref 89, .int v]) (S' := SH ++ X) (V' := V1) rfl ?_
  refine wl_ld C i1 (by decide +kernel) ?_
  refine wl_go C hc hs 4 (pc' := 538) (l' := [(0, .ref 999996), (1, .ref 0), (2, .ref 89), (3, .ref 118), (4, .int P)]) (st' := [.int (P + 2), .ref 999996, .int (xs (P + 1).toNatClampNeg), .ref 89, .int v]) (S' := SH ++ X) (V' := V1) rfl ?_
  refine wl_ld C i2 (by decide +kernel) ?_
  refine wl_call (o := 89) (as := [.int (xs (P + 1).toNatClampNeg), .int (xs (P + 2).toNatClampNeg)]) (rest := [.int v]) C rfl (t_M_brake (X := X) (Nat.le_refl _) hm) rfl (by decide) rfl rfl rfl (by decide) hc hs ?_
  exact wl_brT C rfl (by decide) rfl rfl kk

set_option maxRecDepth 20000 in
theorem lc_sheet {p : Program} {L : Launch} {e : Env} {s : State} {m : MethodId} {args : Array Value} {below : List Frame} {meth : Method} {c : Code} {cells slots : Nat} {Q : State → Prop} {D : va_G} {E : Nat → ClassId} {r : Nat → Nat} {A : Nat → Prop} {n : Nat} {xs : Nat → Int32} (C : lw_C p L s m args meth c A r n xs) (hc : cells ≤ 194196) (hs : slots ≤ 8513518) {P v : Int32} {X : ai_S} {V V1 V2 : ai_V} (i1 : vp_in (P + 1) n) (i2 : vp_in (P + 2) n) (i3 : vp_in (P + 3) n) (i4 : vp_in (P + 4) n) (hx : d_X_sheet (xs (P + 1).toNatClampNeg) (xs (P + 2).toNatClampNeg) (xs (P + 3).toNatClampNeg) (xs (P + 4).toNatClampNeg) V = some (v, V1)) (hm : d_M_sheet (xs (P + 1).toNatClampNeg) (xs (P + 2).toNatClampNeg) (xs (P + 3).toNatClampNeg) (xs (P + 4).toNatClampNeg) V1 = some (v, V2)) (kk : WL p L e s m args below meth c cells slots Q D E r A 1610 [(0, .ref 999996), (1, .ref 0), (2, .ref 89), (3, .ref 118), (4, .int P)] [] (SH ++ X) V2) : WL p L e s m args below meth c cells slots Q D E r A 547 [(0, .ref 999996), (1, .ref 0), (2, .ref 89), (3, .ref 118), (4, .int P)] [] (SH ++ X) V := by
  refine wl_go C hc hs 5 (pc' := 553) (l' := [(0, .ref 999996), (1, .ref 0), (2, .ref 89), (3, .ref 118), (4, .int P)]) (st' := [.int (P + 1), .ref 999996, .ref 0]) (S' := SH ++ X) (V' := V) rfl ?_
  refine wl_ld C i1 (by decide +kernel) ?_
  refine wl_go C hc hs 4 (pc' := 559) (l' := [(0, .ref 999996), (1, .ref 0), (2, .ref 89), (3, .ref 118), (4, .int P)]) (st' := [.int (P + 2), .ref 999996, .int (xs (P + 1).toNatClampNeg), .ref 0]) (S' := SH ++ X) (V' := V) rfl ?_
  refine wl_ld C i2 (by decide +kernel) ?_
  refine wl_go C hc hs 4 (pc' := 565) (l' := [(0, .ref 999996), (1, .ref 0), (2, .ref 89), (3, .ref 118), (4, .int P)]) (st' := [.int (P + 3), .ref 999996, .int (xs (P + 2).toNatClampNeg), .int (xs (P + 1).toNatClampNeg), .ref 0]) (S' := SH ++ X) (V' := V) rfl ?_
  refine wl_ld C i3 (by decide +kernel) ?_
  refine wl_go C hc hs 4 (pc' := 571) (l' := [(0, .ref 999996), (1, .ref 0), (2, .ref 89), (3, .ref 118), (4, .int P)]) (st' := [.int (P + 4), .ref 999996, .int (xs (P + 3).toNatClampNeg), .int (xs (P + 2).toNatClampNeg), .int (xs (P + 1).toNatClampNeg), .ref 0]) (S' := SH ++ X) (V' := V) rfl ?_
  refine wl_ld C i4 (by decide +kernel) ?_
  refine wl_call (o := 0) (as := [.int (xs (P + 1).toNatClampNeg), .int (xs (P + 2).toNatClampNeg), .int (xs (P + 3).toNatClampNeg), .int (xs (P + 4).toNatClampNeg)]) (rest := []) C rfl (t_X_sheet (X := X) (Nat.le_refl _) hx) rfl (by decide) rfl rfl rfl (by decide) hc hs ?_
  refine wl_go C hc hs 5 (pc' := 581) (l' := [(0, .ref 999996), (1, .ref 0), (2, .ref 89), (3, .ref 118), (4, .int P)]) (st' := [.int (P + 1), .ref 999996, .ref 89, .int v]) (S' := SH ++ X) (V' := V1) rfl ?_
  refine wl_ld C i1 (by decide +kernel) ?_
  refine wl_go C hc hs 4 (pc' := 587) (l' := [(0, .ref 999996), (1, .ref 0), (2, .ref 89), (3, .ref 118), (4, .int P)]) (st' := [.int (P + 2), .ref 999996, .int (xs (P + 1).toNatClampNeg), .ref 89, .int v]) (S' := SH ++ X) (V' := V1) rfl ?_
  refine wl_ld C i2 (by decide +kernel) ?_
  refine wl_go C hc hs 4 (pc' := 593) (l' := [(0, .ref 999996), (1, .ref 0), (2, .ref 89), (3, .ref 118), (4, .int P)]) (st' := [.int (P + 3), .ref 999996, .int (xs (P + 2).toNatClampNeg), .int (xs (P + 1).toNatClampNeg), .ref 89, .int v]) (S' := SH ++ X) (V' := V1) rfl ?_
  refine wl_ld C i3 (by decide +kernel) ?_
  refine wl_go C hc hs 4 (pc' := 599) (l' := [(0, .ref 999996), (1, .ref 0), (2, .ref 89), (3, .ref 118), (4, .int P)]) (st' := [.int (P + 4), .ref 999996, .int (xs (P + 3).toNatClampNeg), .int (xs (P + 2).toNatClampNeg), .int (xs (P + 1).toNatClampNeg), .ref 89, .int v]) (S' := SH ++ X) (V' := V1) rfl ?_
  refine wl_ld C i4 (by decide +kernel) ?_
  refine wl_call (o := 89) (as := [.int (xs (P + 1).toNatClampNeg), .int (xs (P + 2).toNatClampNeg), .int (xs (P + 3).toNatClampNeg), .int (xs (P + 4).toNatClampNeg)]) (rest := [.int v]) C rfl (t_M_sheet (X := X) (Nat.le_refl _) hm) rfl (by decide) rfl rfl rfl (by decide) hc hs ?_
  exact wl_brT C rfl (by decide) rfl rfl kk

set_option maxRecDepth 20000 in
theorem lc_quarter {p : Program} {L : Launch} {e : Env} {s : State} {m : MethodId} {args : Array Value} {below : List Frame} {meth : Method} {c : Code} {cells slots : Nat} {Q : State → Prop} {D : va_G} {E : Nat → ClassId} {r : Nat → Nat} {A : Nat → Prop} {n : Nat} {xs : Nat → Int32} (C : lw_C p L s m args meth c A r n xs) (hc : cells ≤ 194196) (hs : slots ≤ 8513518) {P v : Int32} {X : ai_S} {V V1 V2 : ai_V} (i1 : vp_in (P + 1) n) (i2 : vp_in (P + 2) n) (hx : d_X_quarter (xs (P + 1).toNatClampNeg) (xs (P + 2).toNatClampNeg) V = some (v, V1)) (hm : d_M_quarter (xs (P + 1).toNatClampNeg) (xs (P + 2).toNatClampNeg) V1 = some (v, V2)) (kk : WL p L e s m args below meth c cells slots Q D E r A 1610 [(0, .ref 999996), (1, .ref 0), (2, .ref 89), (3, .ref 118), (4, .int P)] [] (SH ++ X) V2) : WL p L e s m args below meth c cells slots Q D E r A 608 [(0, .ref 999996), (1, .ref 0), (2, .ref 89), (3, .ref 118), (4, .int P)] [] (SH ++ X) V := by
  refine wl_go C hc hs 5 (pc' := 614) (l' := [(0, .ref 999996), (1, .ref 0), (2, .ref 89), (3, .ref 118), (4, .int P)]) (st' := [.int (P + 1), .ref 999996, .ref 0]) (S' := SH ++ X) (V' := V) rfl ?_
  refine wl_ld C i1 (by decide +kernel) ?_
  refine wl_go C hc hs 4 (pc' := 620) (l' := [(0, .ref 999996), (1, .ref 0), (2, .ref 89), (3, .ref 118), (4, .int P)]) (st' := [.int (P + 2), .ref 999996, .int (xs (P + 1).toNatClampNeg), .ref 0]) (S' := SH ++ X) (V' := V) rfl ?_
  refine wl_ld C i2 (by decide +kernel) ?_
  refine wl_call (o := 0) (as := [.int (xs (P + 1).toNatClampNeg), .int (xs (P + 2).toNatClampNeg)]) (rest := []) C rfl (t_X_quarter (X := X) (Nat.le_refl _) hx) rfl (by decide) rfl rfl rfl (by decide) hc hs ?_
  refine wl_go C hc hs 5 (pc' := 630) (l' := [(0, .ref 999996), (1, .ref 0), (2, .ref 89), (3, .ref 118), (4, .int P)]) (st' := [.int (P + 1), .ref 999996, .ref 89, .int v]) (S' := SH ++ X) (V' := V1) rfl ?_
  refine wl_ld C i1 (by decide +kernel) ?_
  refine wl_go C hc hs 4 (pc' := 636) (l' := [(0, .ref 999996), (1, .ref 0), (2, .ref 89), (3, .ref 118), (4, .int P)]) (st' := [.int (P + 2), .ref 999996, .int (xs (P + 1).toNatClampNeg), .ref 89, .int v]) (S' := SH ++ X) (V' := V1) rfl ?_
  refine wl_ld C i2 (by decide +kernel) ?_
  refine wl_call (o := 89) (as := [.int (xs (P + 1).toNatClampNeg), .int (xs (P + 2).toNatClampNeg)]) (rest := [.int v]) C rfl (t_M_quarter (X := X) (Nat.le_refl _) hm) rfl (by decide) rfl rfl rfl (by decide) hc hs ?_
  exact wl_brT C rfl (by decide) rfl rfl kk

set_option maxRecDepth 20000 in
theorem lc_day {p : Program} {L : Launch} {e : Env} {s : State} {m : MethodId} {args : Array Value} {below : List Frame} {meth : Method} {c : Code} {cells slots : Nat} {Q : State → Prop} {D : va_G} {E : Nat → ClassId} {r : Nat → Nat} {A : Nat → Prop} {n : Nat} {xs : Nat → Int32} (C : lw_C p L s m args meth c A r n xs) (hc : cells ≤ 194196) (hs : slots ≤ 8513518) {P v : Int32} {X : ai_S} {V V1 V2 : ai_V}  (hx : d_X_day  V = some (v, V1)) (hm : d_M_day  V1 = some (v, V2)) (kk : WL p L e s m args below meth c cells slots Q D E r A 1610 [(0, .ref 999996), (1, .ref 0), (2, .ref 89), (3, .ref 118), (4, .int P)] [] (SH ++ X) V2) : WL p L e s m args below meth c cells slots Q D E r A 645 [(0, .ref 999996), (1, .ref 0), (2, .ref 89), (3, .ref 118), (4, .int P)] [] (SH ++ X) V := by
  refine wl_go C hc hs 1 (pc' := 646) (l' := [(0, .ref 999996), (1, .ref 0), (2, .ref 89), (3, .ref 118), (4, .int P)]) (st' := [.ref 0]) (S' := SH ++ X) (V' := V) rfl ?_
  refine wl_call (o := 0) (as := []) (rest := []) C rfl (t_X_day (X := X) (Nat.le_refl _) hx) rfl (by decide) rfl rfl rfl (by decide) hc hs ?_
  refine wl_go C hc hs 1 (pc' := 650) (l' := [(0, .ref 999996), (1, .ref 0), (2, .ref 89), (3, .ref 118), (4, .int P)]) (st' := [.ref 89, .int v]) (S' := SH ++ X) (V' := V1) rfl ?_
  refine wl_call (o := 89) (as := []) (rest := [.int v]) C rfl (t_M_day (X := X) (Nat.le_refl _) hm) rfl (by decide) rfl rfl rfl (by decide) hc hs ?_
  exact wl_brT C rfl (by decide) rfl rfl kk

set_option maxRecDepth 20000 in
theorem lc_look {p : Program} {L : Launch} {e : Env} {s : State} {m : MethodId} {args : Array Value} {below : List Frame} {meth : Method} {c : Code} {cells slots : Nat} {Q : State → Prop} {D : va_G} {E : Nat → ClassId} {r : Nat → Nat} {A : Nat → Prop} {n : Nat} {xs : Nat → Int32} (C : lw_C p L s m args meth c A r n xs) (hc : cells ≤ 194196) (hs : slots ≤ 8513518) {P v : Int32} {X : ai_S} {V V1 V2 : ai_V}  (hx : d_X_look  V = some (v, V1)) (hm : d_M_look  V1 = some (v, V2)) (kk : WL p L e s m args below meth c cells slots Q D E r A 1610 [(0, .ref 999996), (1, .ref 0), (2, .ref 89), (3, .ref 118), (4, .int P)] [] (SH ++ X) V2) : WL p L e s m args below meth c cells slots Q D E r A 658 [(0, .ref 999996), (1, .ref 0), (2, .ref 89), (3, .ref 118), (4, .int P)] [] (SH ++ X) V := by
  refine wl_go C hc hs 1 (pc' := 659) (l' := [(0, .ref 999996), (1, .ref 0), (2, .ref 89), (3, .ref 118), (4, .int P)]) (st' := [.ref 0]) (S' := SH ++ X) (V' := V) rfl ?_
  refine wl_call (o := 0) (as := []) (rest := []) C rfl (t_X_look (X := X) (Nat.le_refl _) hx) rfl (by decide) rfl rfl rfl (by decide) hc hs ?_
  refine wl_go C hc hs 1 (pc' := 663) (l' := [(0, .ref 999996), (1, .ref 0), (2, .ref 89), (3, .ref 118), (4, .int P)]) (st' := [.ref 89, .int v]) (S' := SH ++ X) (V' := V1) rfl ?_
  refine wl_call (o := 89) (as := []) (rest := [.int v]) C rfl (t_M_look (X := X) (Nat.le_refl _) hm) rfl (by decide) rfl rfl rfl (by decide) hc hs ?_
  exact wl_brT C rfl (by decide) rfl rfl kk

set_option maxRecDepth 20000 in
theorem lc_undo {p : Program} {L : Launch} {e : Env} {s : State} {m : MethodId} {args : Array Value} {below : List Frame} {meth : Method} {c : Code} {cells slots : Nat} {Q : State → Prop} {D : va_G} {E : Nat → ClassId} {r : Nat → Nat} {A : Nat → Prop} {n : Nat} {xs : Nat → Int32} (C : lw_C p L s m args meth c A r n xs) (hc : cells ≤ 194196) (hs : slots ≤ 8513518) {P v : Int32} {X : ai_S} {V V1 V2 : ai_V}  (hx : d_X_undo  V = some (v, V1)) (hm : d_M_undo  V1 = some (v, V2)) (kk : WL p L e s m args below meth c cells slots Q D E r A 1610 [(0, .ref 999996), (1, .ref 0), (2, .ref 89), (3, .ref 118), (4, .int P)] [] (SH ++ X) V2) : WL p L e s m args below meth c cells slots Q D E r A 671 [(0, .ref 999996), (1, .ref 0), (2, .ref 89), (3, .ref 118), (4, .int P)] [] (SH ++ X) V := by
  refine wl_go C hc hs 1 (pc' := 672) (l' := [(0, .ref 999996), (1, .ref 0), (2, .ref 89), (3, .ref 118), (4, .int P)]) (st' := [.ref 0]) (S' := SH ++ X) (V' := V) rfl ?_
  refine wl_call (o := 0) (as := []) (rest := []) C rfl (t_X_undo (X := X) (Nat.le_refl _) hx) rfl (by decide) rfl rfl rfl (by decide) hc hs ?_
  refine wl_go C hc hs 1 (pc' := 676) (l' := [(0, .ref 999996), (1, .ref 0), (2, .ref 89), (3, .ref 118), (4, .int P)]) (st' := [.ref 89, .int v]) (S' := SH ++ X) (V' := V1) rfl ?_
  refine wl_call (o := 89) (as := []) (rest := [.int v]) C rfl (t_M_undo (X := X) (Nat.le_refl _) hm) rfl (by decide) rfl rfl rfl (by decide) hc hs ?_
  exact wl_brT C rfl (by decide) rfl rfl kk

set_option maxRecDepth 20000 in
theorem lc_fewest {p : Program} {L : Launch} {e : Env} {s : State} {m : MethodId} {args : Array Value} {below : List Frame} {meth : Method} {c : Code} {cells slots : Nat} {Q : State → Prop} {D : va_G} {E : Nat → ClassId} {r : Nat → Nat} {A : Nat → Prop} {n : Nat} {xs : Nat → Int32} (C : lw_C p L s m args meth c A r n xs) (hc : cells ≤ 194196) (hs : slots ≤ 8513518) {P v : Int32} {X0 : ai_S} {V V1 V2 : ai_V} (i1 : vp_in (P + 1) n) (i2 : vp_in (P + 2) n) (hx : d_X_fewest (xs (P + 1).toNatClampNeg) (xs (P + 2).toNatClampNeg) V = some (v, V1)) (hm : d_M_fewest (xs (P + 1).toNatClampNeg) (xs (P + 2).toNatClampNeg) V1 = some (v, V2)) (kk : WL p L e s m args below meth c cells slots Q D E r A 1610 [(0, .ref 999996), (1, .ref 0), (2, .ref 89), (3, .ref 118), (4, .int P)] [] (SH ++ (kcost :: X0)) V2) : WL p L e s m args below meth c cells slots Q D E r A 684 [(0, .ref 999996), (1, .ref 0), (2, .ref 89), (3, .ref 118), (4, .int P)] [] (SH ++ (kcost :: X0)) V := by
  refine wl_go C hc hs 5 (pc' := 690) (l' := [(0, .ref 999996), (1, .ref 0), (2, .ref 89), (3, .ref 118), (4, .int P)]) (st' := [.int (P + 1), .ref 999996, .ref 0]) (S' := SH ++ (kcost :: X0)) (V' := V) rfl ?_
  refine wl_ld C i1 (by decide +kernel) ?_
  refine wl_go C hc hs 4 (pc' := 696) (l' := [(0, .ref 999996), (1, .ref 0), (2, .ref 89), (3, .ref 118), (4, .int P)]) (st' := [.int (P + 2), .ref 999996, .int (xs (P + 1).toNatClampNeg), .ref 0]) (S' := SH ++ (kcost :: X0)) (V' := V) rfl ?_
  refine wl_ld C i2 (by decide +kernel) ?_
  refine wl_call (o := 0) (as := [.int (xs (P + 1).toNatClampNeg), .int (xs (P + 2).toNatClampNeg)]) (rest := []) C rfl (t_X_fewest (X := X0) (Nat.le_refl _) hx) rfl (by decide) rfl rfl rfl (by decide) hc hs ?_
  refine wl_go C hc hs 5 (pc' := 706) (l' := [(0, .ref 999996), (1, .ref 0), (2, .ref 89), (3, .ref 118), (4, .int P)]) (st' := [.int (P + 1), .ref 999996, .ref 89, .int v]) (S' := SH ++ (kcost :: X0)) (V' := V1) rfl ?_
  refine wl_ld C i1 (by decide +kernel) ?_
  refine wl_go C hc hs 4 (pc' := 712) (l' := [(0, .ref 999996), (1, .ref 0), (2, .ref 89), (3, .ref 118), (4, .int P)]) (st' := [.int (P + 2), .ref 999996, .int (xs (P + 1).toNatClampNeg), .ref 89, .int v]) (S' := SH ++ (kcost :: X0)) (V' := V1) rfl ?_
  refine wl_ld C i2 (by decide +kernel) ?_
  refine wl_call (o := 89) (as := [.int (xs (P + 1).toNatClampNeg), .int (xs (P + 2).toNatClampNeg)]) (rest := [.int v]) C rfl (t_M_fewest (X := kcost :: X0) (Nat.le_refl _) hm) rfl (by decide) rfl rfl rfl (by decide) hc hs ?_
  exact wl_brT C rfl (by decide) rfl rfl kk

set_option maxRecDepth 20000 in
theorem lc_driest {p : Program} {L : Launch} {e : Env} {s : State} {m : MethodId} {args : Array Value} {below : List Frame} {meth : Method} {c : Code} {cells slots : Nat} {Q : State → Prop} {D : va_G} {E : Nat → ClassId} {r : Nat → Nat} {A : Nat → Prop} {n : Nat} {xs : Nat → Int32} (C : lw_C p L s m args meth c A r n xs) (hc : cells ≤ 194196) (hs : slots ≤ 8513518) {P v : Int32} {X0 : ai_S} {V V1 V2 : ai_V} (i1 : vp_in (P + 1) n) (i2 : vp_in (P + 2) n) (hx : d_X_driest (xs (P + 1).toNatClampNeg) (xs (P + 2).toNatClampNeg) V = some (v, V1)) (hm : d_M_driest (xs (P + 1).toNatClampNeg) (xs (P + 2).toNatClampNeg) V1 = some (v, V2)) (kk : WL p L e s m args below meth c cells slots Q D E r A 1610 [(0, .ref 999996), (1, .ref 0), (2, .ref 89), (3, .ref 118), (4, .int P)] [] (SH ++ (kcost :: X0)) V2) : WL p L e s m args below meth c cells slots Q D E r A 721 [(0, .ref 999996), (1, .ref 0), (2, .ref 89), (3, .ref 118), (4, .int P)] [] (SH ++ (kcost :: X0)) V := by
  refine wl_go C hc hs 5 (pc' := 727) (l' := [(0, .ref 999996), (1, .ref 0), (2, .ref 89), (3, .ref 118), (4, .int P)]) (st' := [.int (P + 1), .ref 999996, .ref 0]) (S' := SH ++ (kcost :: X0)) (V' := V) rfl ?_
  refine wl_ld C i1 (by decide +kernel) ?_
  refine wl_go C hc hs 4 (pc' := 733) (l' := [(0, .ref 999996), (1, .ref 0), (2, .ref 89), (3, .ref 118), (4, .int P)]) (st' := [.int (P + 2), .ref 999996, .int (xs (P + 1).toNatClampNeg), .ref 0]) (S' := SH ++ (kcost :: X0)) (V' := V) rfl ?_
  refine wl_ld C i2 (by decide +kernel) ?_
  refine wl_call (o := 0) (as := [.int (xs (P + 1).toNatClampNeg), .int (xs (P + 2).toNatClampNeg)]) (rest := []) C rfl (t_X_driest (X := X0) (Nat.le_refl _) hx) rfl (by decide) rfl rfl rfl (by decide) hc hs ?_
  refine wl_go C hc hs 5 (pc' := 743) (l' := [(0, .ref 999996), (1, .ref 0), (2, .ref 89), (3, .ref 118), (4, .int P)]) (st' := [.int (P + 1), .ref 999996, .ref 89, .int v]) (S' := SH ++ (kcost :: X0)) (V' := V1) rfl ?_
  refine wl_ld C i1 (by decide +kernel) ?_
  refine wl_go C hc hs 4 (pc' := 749) (l' := [(0, .ref 999996), (1, .ref 0), (2, .ref 89), (3, .ref 118), (4, .int P)]) (st' := [.int (P + 2), .ref 999996, .int (xs (P + 1).toNatClampNeg), .ref 89, .int v]) (S' := SH ++ (kcost :: X0)) (V' := V1) rfl ?_
  refine wl_ld C i2 (by decide +kernel) ?_
  refine wl_call (o := 89) (as := [.int (xs (P + 1).toNatClampNeg), .int (xs (P + 2).toNatClampNeg)]) (rest := [.int v]) C rfl (t_M_driest (X := kcost :: X0) (Nat.le_refl _) hm) rfl (by decide) rfl rfl rfl (by decide) hc hs ?_
  exact wl_brT C rfl (by decide) rfl rfl kk

set_option maxRecDepth 20000 in
theorem lc_pays {p : Program} {L : Launch} {e : Env} {s : State} {m : MethodId} {args : Array Value} {below : List Frame} {meth : Method} {c : Code} {cells slots : Nat} {Q : State → Prop} {D : va_G} {E : Nat → ClassId} {r : Nat → Nat} {A : Nat → Prop} {n : Nat} {xs : Nat → Int32} (C : lw_C p L s m args meth c A r n xs) (hc : cells ≤ 194196) (hs : slots ≤ 8513518) {P v : Int32} {X : ai_S} {V V1 V2 : ai_V} (i1 : vp_in (P + 1) n) (hx : d_X_pays (xs (P + 1).toNatClampNeg) V = some (v, V1)) (hm : d_M_pays (xs (P + 1).toNatClampNeg) V1 = some (v, V2)) (kk : WL p L e s m args below meth c cells slots Q D E r A 1610 [(0, .ref 999996), (1, .ref 0), (2, .ref 89), (3, .ref 118), (4, .int P)] [] (SH ++ X) V2) : WL p L e s m args below meth c cells slots Q D E r A 758 [(0, .ref 999996), (1, .ref 0), (2, .ref 89), (3, .ref 118), (4, .int P)] [] (SH ++ X) V := by
  refine wl_go C hc hs 5 (pc' := 764) (l' := [(0, .ref 999996), (1, .ref 0), (2, .ref 89), (3, .ref 118), (4, .int P)]) (st' := [.int (P + 1), .ref 999996, .ref 0]) (S' := SH ++ X) (V' := V) rfl ?_
  refine wl_ld C i1 (by decide +kernel) ?_
  refine wl_call (o := 0) (as := [.int (xs (P + 1).toNatClampNeg)]) (rest := []) C rfl (t_X_pays (X := X) (Nat.le_refl _) hx) rfl (by decide) rfl rfl rfl (by decide) hc hs ?_
  refine wl_go C hc hs 5 (pc' := 774) (l' := [(0, .ref 999996), (1, .ref 0), (2, .ref 89), (3, .ref 118), (4, .int P)]) (st' := [.int (P + 1), .ref 999996, .ref 89, .int v]) (S' := SH ++ X) (V' := V1) rfl ?_
  refine wl_ld C i1 (by decide +kernel) ?_
  refine wl_call (o := 89) (as := [.int (xs (P + 1).toNatClampNeg)]) (rest := [.int v]) C rfl (t_M_pays (X := X) (Nat.le_refl _) hm) rfl (by decide) rfl rfl rfl (by decide) hc hs ?_
  exact wl_brT C rfl (by decide) rfl rfl kk

set_option maxRecDepth 20000 in
theorem lc_strongest {p : Program} {L : Launch} {e : Env} {s : State} {m : MethodId} {args : Array Value} {below : List Frame} {meth : Method} {c : Code} {cells slots : Nat} {Q : State → Prop} {D : va_G} {E : Nat → ClassId} {r : Nat → Nat} {A : Nat → Prop} {n : Nat} {xs : Nat → Int32} (C : lw_C p L s m args meth c A r n xs) (hc : cells ≤ 194196) (hs : slots ≤ 8513518) {P v : Int32} {X : ai_S} {V V1 V2 : ai_V} (i1 : vp_in (P + 1) n) (hx : d_X_strongest (xs (P + 1).toNatClampNeg) V = some (v, V1)) (hm : d_M_strongest (xs (P + 1).toNatClampNeg) V1 = some (v, V2)) (kk : WL p L e s m args below meth c cells slots Q D E r A 1610 [(0, .ref 999996), (1, .ref 0), (2, .ref 89), (3, .ref 118), (4, .int P)] [] (SH ++ X) V2) : WL p L e s m args below meth c cells slots Q D E r A 783 [(0, .ref 999996), (1, .ref 0), (2, .ref 89), (3, .ref 118), (4, .int P)] [] (SH ++ X) V := by
  refine wl_go C hc hs 5 (pc' := 789) (l' := [(0, .ref 999996), (1, .ref 0), (2, .ref 89), (3, .ref 118), (4, .int P)]) (st' := [.int (P + 1), .ref 999996, .ref 0]) (S' := SH ++ X) (V' := V) rfl ?_
  refine wl_ld C i1 (by decide +kernel) ?_
  refine wl_call (o := 0) (as := [.int (xs (P + 1).toNatClampNeg)]) (rest := []) C rfl (t_X_strongest (X := X) (Nat.le_refl _) hx) rfl (by decide) rfl rfl rfl (by decide) hc hs ?_
  refine wl_go C hc hs 5 (pc' := 799) (l' := [(0, .ref 999996), (1, .ref 0), (2, .ref 89), (3, .ref 118), (4, .int P)]) (st' := [.int (P + 1), .ref 999996, .ref 89, .int v]) (S' := SH ++ X) (V' := V1) rfl ?_
  refine wl_ld C i1 (by decide +kernel) ?_
  refine wl_call (o := 89) (as := [.int (xs (P + 1).toNatClampNeg)]) (rest := [.int v]) C rfl (t_M_strongest (X := X) (Nat.le_refl _) hm) rfl (by decide) rfl rfl rfl (by decide) hc hs ?_
  exact wl_brT C rfl (by decide) rfl rfl kk

set_option maxRecDepth 20000 in
theorem lc_roomy {p : Program} {L : Launch} {e : Env} {s : State} {m : MethodId} {args : Array Value} {below : List Frame} {meth : Method} {c : Code} {cells slots : Nat} {Q : State → Prop} {D : va_G} {E : Nat → ClassId} {r : Nat → Nat} {A : Nat → Prop} {n : Nat} {xs : Nat → Int32} (C : lw_C p L s m args meth c A r n xs) (hc : cells ≤ 194196) (hs : slots ≤ 8513518) {P v : Int32} {X : ai_S} {V V1 V2 : ai_V} (i1 : vp_in (P + 1) n) (i2 : vp_in (P + 2) n) (hx : d_X_roomy (xs (P + 1).toNatClampNeg) (xs (P + 2).toNatClampNeg) V = some (v, V1)) (hm : d_M_roomy (xs (P + 1).toNatClampNeg) (xs (P + 2).toNatClampNeg) V1 = some (v, V2)) (kk : WL p L e s m args below meth c cells slots Q D E r A 1610 [(0, .ref 999996), (1, .ref 0), (2, .ref 89), (3, .ref 118), (4, .int P)] [] (SH ++ X) V2) : WL p L e s m args below meth c cells slots Q D E r A 808 [(0, .ref 999996), (1, .ref 0), (2, .ref 89), (3, .ref 118), (4, .int P)] [] (SH ++ X) V := by
  refine wl_go C hc hs 5 (pc' := 814) (l' := [(0, .ref 999996), (1, .ref 0), (2, .ref 89), (3, .ref 118), (4, .int P)]) (st' := [.int (P + 1), .ref 999996, .ref 0]) (S' := SH ++ X) (V' := V) rfl ?_
  refine wl_ld C i1 (by decide +kernel) ?_
  refine wl_go C hc hs 4 (pc' := 820) (l' := [(0, .ref 999996), (1, .ref 0), (2, .ref 89), (3, .ref 118), (4, .int P)]) (st' := [.int (P + 2), .ref 999996, .int (xs (P + 1).toNatClampNeg), .ref 0]) (S' := SH ++ X) (V' := V) rfl ?_
  refine wl_ld C i2 (by decide +kernel) ?_
  refine wl_call (o := 0) (as := [.int (xs (P + 1).toNatClampNeg), .int (xs (P + 2).toNatClampNeg)]) (rest := []) C rfl (t_X_roomy (X := X) (Nat.le_refl _) hx) rfl (by decide) rfl rfl rfl (by decide) hc hs ?_
  refine wl_go C hc hs 5 (pc' := 830) (l' := [(0, .ref 999996), (1, .ref 0), (2, .ref 89), (3, .ref 118), (4, .int P)]) (st' := [.int (P + 1), .ref 999996, .ref 89, .int v]) (S' := SH ++ X) (V' := V1) rfl ?_
  refine wl_ld C i1 (by decide +kernel) ?_
  refine wl_go C hc hs 4 (pc' := 836) (l' := [(0, .ref 999996), (1, .ref 0), (2, .ref 89), (3, .ref 118), (4, .int P)]) (st' := [.int (P + 2), .ref 999996, .int (xs (P + 1).toNatClampNeg), .ref 89, .int v]) (S' := SH ++ X) (V' := V1) rfl ?_
  refine wl_ld C i2 (by decide +kernel) ?_
  refine wl_call (o := 89) (as := [.int (xs (P + 1).toNatClampNeg), .int (xs (P + 2).toNatClampNeg)]) (rest := [.int v]) C rfl (t_M_roomy (X := X) (Nat.le_refl _) hm) rfl (by decide) rfl rfl rfl (by decide) hc hs ?_
  exact wl_brT C rfl (by decide) rfl rfl kk

set_option maxRecDepth 20000 in
theorem lc_even {p : Program} {L : Launch} {e : Env} {s : State} {m : MethodId} {args : Array Value} {below : List Frame} {meth : Method} {c : Code} {cells slots : Nat} {Q : State → Prop} {D : va_G} {E : Nat → ClassId} {r : Nat → Nat} {A : Nat → Prop} {n : Nat} {xs : Nat → Int32} (C : lw_C p L s m args meth c A r n xs) (hc : cells ≤ 194196) (hs : slots ≤ 8513518) {P v : Int32} {X : ai_S} {V V1 V2 : ai_V} (i1 : vp_in (P + 1) n) (hx : d_X_even (xs (P + 1).toNatClampNeg) V = some (v, V1)) (hm : d_M_even (xs (P + 1).toNatClampNeg) V1 = some (v, V2)) (kk : WL p L e s m args below meth c cells slots Q D E r A 1610 [(0, .ref 999996), (1, .ref 0), (2, .ref 89), (3, .ref 118), (4, .int P)] [] (SH ++ X) V2) : WL p L e s m args below meth c cells slots Q D E r A 845 [(0, .ref 999996), (1, .ref 0), (2, .ref 89), (3, .ref 118), (4, .int P)] [] (SH ++ X) V := by
  refine wl_go C hc hs 5 (pc' := 851) (l' := [(0, .ref 999996), (1, .ref 0), (2, .ref 89), (3, .ref 118), (4, .int P)]) (st' := [.int (P + 1), .ref 999996, .ref 0]) (S' := SH ++ X) (V' := V) rfl ?_
  refine wl_ld C i1 (by decide +kernel) ?_
  refine wl_call (o := 0) (as := [.int (xs (P + 1).toNatClampNeg)]) (rest := []) C rfl (t_X_even (X := X) (Nat.le_refl _) hx) rfl (by decide) rfl rfl rfl (by decide) hc hs ?_
  refine wl_go C hc hs 5 (pc' := 861) (l' := [(0, .ref 999996), (1, .ref 0), (2, .ref 89), (3, .ref 118), (4, .int P)]) (st' := [.int (P + 1), .ref 999996, .ref 89, .int v]) (S' := SH ++ X) (V' := V1) rfl ?_
  refine wl_ld C i1 (by decide +kernel) ?_
  refine wl_call (o := 89) (as := [.int (xs (P + 1).toNatClampNeg)]) (rest := [.int v]) C rfl (t_M_even (X := X) (Nat.le_refl _) hm) rfl (by decide) rfl rfl rfl (by decide) hc hs ?_
  exact wl_brT C rfl (by decide) rfl rfl kk

set_option maxRecDepth 20000 in
theorem lc_thirst {p : Program} {L : Launch} {e : Env} {s : State} {m : MethodId} {args : Array Value} {below : List Frame} {meth : Method} {c : Code} {cells slots : Nat} {Q : State → Prop} {D : va_G} {E : Nat → ClassId} {r : Nat → Nat} {A : Nat → Prop} {n : Nat} {xs : Nat → Int32} (C : lw_C p L s m args meth c A r n xs) (hc : cells ≤ 194196) (hs : slots ≤ 8513518) {P v : Int32} {X : ai_S} {V V1 V2 : ai_V} (i1 : vp_in (P + 1) n) (hx : d_X_thirst (xs (P + 1).toNatClampNeg) V = some (v, V1)) (hm : d_M_thirst (xs (P + 1).toNatClampNeg) V1 = some (v, V2)) (kk : WL p L e s m args below meth c cells slots Q D E r A 1610 [(0, .ref 999996), (1, .ref 0), (2, .ref 89), (3, .ref 118), (4, .int P)] [] (SH ++ X) V2) : WL p L e s m args below meth c cells slots Q D E r A 870 [(0, .ref 999996), (1, .ref 0), (2, .ref 89), (3, .ref 118), (4, .int P)] [] (SH ++ X) V := by
  refine wl_go C hc hs 5 (pc' := 876) (l' := [(0, .ref 999996), (1, .ref 0), (2, .ref 89), (3, .ref 118), (4, .int P)]) (st' := [.int (P + 1), .ref 999996, .ref 0]) (S' := SH ++ X) (V' := V) rfl ?_
  refine wl_ld C i1 (by decide +kernel) ?_
  refine wl_call (o := 0) (as := [.int (xs (P + 1).toNatClampNeg)]) (rest := []) C rfl (t_X_thirst (X := X) (Nat.le_refl _) hx) rfl (by decide) rfl rfl rfl (by decide) hc hs ?_
  refine wl_go C hc hs 5 (pc' := 886) (l' := [(0, .ref 999996), (1, .ref 0), (2, .ref 89), (3, .ref 118), (4, .int P)]) (st' := [.int (P + 1), .ref 999996, .ref 89, .int v]) (S' := SH ++ X) (V' := V1) rfl ?_
  refine wl_ld C i1 (by decide +kernel) ?_
  refine wl_call (o := 89) (as := [.int (xs (P + 1).toNatClampNeg)]) (rest := [.int v]) C rfl (t_M_thirst (X := X) (Nat.le_refl _) hm) rfl (by decide) rfl rfl rfl (by decide) hc hs ?_
  exact wl_brT C rfl (by decide) rfl rfl kk

set_option maxRecDepth 20000 in
theorem lc_bath {p : Program} {L : Launch} {e : Env} {s : State} {m : MethodId} {args : Array Value} {below : List Frame} {meth : Method} {c : Code} {cells slots : Nat} {Q : State → Prop} {D : va_G} {E : Nat → ClassId} {r : Nat → Nat} {A : Nat → Prop} {n : Nat} {xs : Nat → Int32} (C : lw_C p L s m args meth c A r n xs) (hc : cells ≤ 194196) (hs : slots ≤ 8513518) {P v : Int32} {X : ai_S} {V V1 V2 : ai_V} (i1 : vp_in (P + 1) n) (i2 : vp_in (P + 2) n) (hx : d_X_bath (xs (P + 1).toNatClampNeg) (xs (P + 2).toNatClampNeg) V = some (v, V1)) (hm : d_M_bath (xs (P + 1).toNatClampNeg) (xs (P + 2).toNatClampNeg) V1 = some (v, V2)) (kk : WL p L e s m args below meth c cells slots Q D E r A 1610 [(0, .ref 999996), (1, .ref 0), (2, .ref 89), (3, .ref 118), (4, .int P)] [] (SH ++ X) V2) : WL p L e s m args below meth c cells slots Q D E r A 895 [(0, .ref 999996), (1, .ref 0), (2, .ref 89), (3, .ref 118), (4, .int P)] [] (SH ++ X) V := by
  refine wl_go C hc hs 5 (pc' := 901) (l' := [(0, .ref 999996), (1, .ref 0), (2, .ref 89), (3, .ref 118), (4, .int P)]) (st' := [.int (P + 1), .ref 999996, .ref 0]) (S' := SH ++ X) (V' := V) rfl ?_
  refine wl_ld C i1 (by decide +kernel) ?_
  refine wl_go C hc hs 4 (pc' := 907) (l' := [(0, .ref 999996), (1, .ref 0), (2, .ref 89), (3, .ref 118), (4, .int P)]) (st' := [.int (P + 2), .ref 999996, .int (xs (P + 1).toNatClampNeg), .ref 0]) (S' := SH ++ X) (V' := V) rfl ?_
  refine wl_ld C i2 (by decide +kernel) ?_
  refine wl_call (o := 0) (as := [.int (xs (P + 1).toNatClampNeg), .int (xs (P + 2).toNatClampNeg)]) (rest := []) C rfl (t_X_bath (X := X) (Nat.le_refl _) hx) rfl (by decide) rfl rfl rfl (by decide) hc hs ?_
  refine wl_go C hc hs 5 (pc' := 917) (l' := [(0, .ref 999996), (1, .ref 0), (2, .ref 89), (3, .ref 118), (4, .int P)]) (st' := [.int (P + 1), .ref 999996, .ref 89, .int v]) (S' := SH ++ X) (V' := V1) rfl ?_
  refine wl_ld C i1 (by decide +kernel) ?_
  refine wl_go C hc hs 4 (pc' := 923) (l' := [(0, .ref 999996), (1, .ref 0), (2, .ref 89), (3, .ref 118), (4, .int P)]) (st' := [.int (P + 2), .ref 999996, .int (xs (P + 1).toNatClampNeg), .ref 89, .int v]) (S' := SH ++ X) (V' := V1) rfl ?_
  refine wl_ld C i2 (by decide +kernel) ?_
  refine wl_call (o := 89) (as := [.int (xs (P + 1).toNatClampNeg), .int (xs (P + 2).toNatClampNeg)]) (rest := [.int v]) C rfl (t_M_bath (X := X) (Nat.le_refl _) hm) rfl (by decide) rfl rfl rfl (by decide) hc hs ?_
  exact wl_brT C rfl (by decide) rfl rfl kk

set_option maxRecDepth 20000 in
theorem lc_shares {p : Program} {L : Launch} {e : Env} {s : State} {m : MethodId} {args : Array Value} {below : List Frame} {meth : Method} {c : Code} {cells slots : Nat} {Q : State → Prop} {D : va_G} {E : Nat → ClassId} {r : Nat → Nat} {A : Nat → Prop} {n : Nat} {xs : Nat → Int32} (C : lw_C p L s m args meth c A r n xs) (hc : cells ≤ 194196) (hs : slots ≤ 8513518) {P v : Int32} {X : ai_S} {V V1 V2 : ai_V}  (hx : d_X_shares  V = some (v, V1)) (hm : d_M_shares  V1 = some (v, V2)) (kk : WL p L e s m args below meth c cells slots Q D E r A 1610 [(0, .ref 999996), (1, .ref 0), (2, .ref 89), (3, .ref 118), (4, .int P)] [] (SH ++ X) V2) : WL p L e s m args below meth c cells slots Q D E r A 932 [(0, .ref 999996), (1, .ref 0), (2, .ref 89), (3, .ref 118), (4, .int P)] [] (SH ++ X) V := by
  refine wl_go C hc hs 1 (pc' := 933) (l' := [(0, .ref 999996), (1, .ref 0), (2, .ref 89), (3, .ref 118), (4, .int P)]) (st' := [.ref 0]) (S' := SH ++ X) (V' := V) rfl ?_
  refine wl_call (o := 0) (as := []) (rest := []) C rfl (t_X_shares (X := X) (Nat.le_refl _) hx) rfl (by decide) rfl rfl rfl (by decide) hc hs ?_
  refine wl_go C hc hs 1 (pc' := 937) (l' := [(0, .ref 999996), (1, .ref 0), (2, .ref 89), (3, .ref 118), (4, .int P)]) (st' := [.ref 89, .int v]) (S' := SH ++ X) (V' := V1) rfl ?_
  refine wl_call (o := 89) (as := []) (rest := [.int v]) C rfl (t_M_shares (X := X) (Nat.le_refl _) hm) rfl (by decide) rfl rfl rfl (by decide) hc hs ?_
  exact wl_brT C rfl (by decide) rfl rfl kk

set_option maxRecDepth 20000 in
theorem lc_fairdue {p : Program} {L : Launch} {e : Env} {s : State} {m : MethodId} {args : Array Value} {below : List Frame} {meth : Method} {c : Code} {cells slots : Nat} {Q : State → Prop} {D : va_G} {E : Nat → ClassId} {r : Nat → Nat} {A : Nat → Prop} {n : Nat} {xs : Nat → Int32} (C : lw_C p L s m args meth c A r n xs) (hc : cells ≤ 194196) (hs : slots ≤ 8513518) {P v : Int32} {X : ai_S} {V V1 V2 : ai_V}  (hx : d_X_fairdue  V = some (v, V1)) (hm : d_M_fairdue  V1 = some (v, V2)) (kk : WL p L e s m args below meth c cells slots Q D E r A 1610 [(0, .ref 999996), (1, .ref 0), (2, .ref 89), (3, .ref 118), (4, .int P)] [] (SH ++ X) V2) : WL p L e s m args below meth c cells slots Q D E r A 945 [(0, .ref 999996), (1, .ref 0), (2, .ref 89), (3, .ref 118), (4, .int P)] [] (SH ++ X) V := by
  refine wl_go C hc hs 1 (pc' := 946) (l' := [(0, .ref 999996), (1, .ref 0), (2, .ref 89), (3, .ref 118), (4, .int P)]) (st' := [.ref 0]) (S' := SH ++ X) (V' := V) rfl ?_
  refine wl_call (o := 0) (as := []) (rest := []) C rfl (t_X_fairdue (X := X) (Nat.le_refl _) hx) rfl (by decide) rfl rfl rfl (by decide) hc hs ?_
  refine wl_go C hc hs 1 (pc' := 950) (l' := [(0, .ref 999996), (1, .ref 0), (2, .ref 89), (3, .ref 118), (4, .int P)]) (st' := [.ref 89, .int v]) (S' := SH ++ X) (V' := V1) rfl ?_
  refine wl_call (o := 89) (as := []) (rest := [.int v]) C rfl (t_M_fairdue (X := X) (Nat.le_refl _) hm) rfl (by decide) rfl rfl rfl (by decide) hc hs ?_
  exact wl_brT C rfl (by decide) rfl rfl kk

set_option maxRecDepth 20000 in
theorem lc_ahead {p : Program} {L : Launch} {e : Env} {s : State} {m : MethodId} {args : Array Value} {below : List Frame} {meth : Method} {c : Code} {cells slots : Nat} {Q : State → Prop} {D : va_G} {E : Nat → ClassId} {r : Nat → Nat} {A : Nat → Prop} {n : Nat} {xs : Nat → Int32} (C : lw_C p L s m args meth c A r n xs) (hc : cells ≤ 194196) (hs : slots ≤ 8513518) {P v : Int32} {X : ai_S} {V V1 : ai_V} (i1 : vp_in (P + 1) n) (hx : d_X_ahead (xs (P + 1).toNatClampNeg) V = some v) (hm : d_M_ahead (xs (P + 1).toNatClampNeg) V = some (v, V1)) (kk : WL p L e s m args below meth c cells slots Q D E r A 1610 [(0, .ref 999996), (1, .ref 0), (2, .ref 89), (3, .ref 118), (4, .int P)] [] (SH ++ X) V1) : WL p L e s m args below meth c cells slots Q D E r A 958 [(0, .ref 999996), (1, .ref 0), (2, .ref 89), (3, .ref 118), (4, .int P)] [] (SH ++ X) V := by
  refine wl_go C hc hs 5 (pc' := 964) (l' := [(0, .ref 999996), (1, .ref 0), (2, .ref 89), (3, .ref 118), (4, .int P)]) (st' := [.int (P + 1), .ref 999996, .ref 0]) (S' := SH ++ X) (V' := V) rfl ?_
  refine wl_ld C i1 (by decide +kernel) ?_
  refine wl_call (o := 0) (as := [.int (xs (P + 1).toNatClampNeg)]) (rest := []) C rfl (t_X_ahead (X := X) (Nat.le_refl _) hx) rfl (by decide) rfl rfl rfl (by decide) hc hs ?_
  refine wl_go C hc hs 5 (pc' := 974) (l' := [(0, .ref 999996), (1, .ref 0), (2, .ref 89), (3, .ref 118), (4, .int P)]) (st' := [.int (P + 1), .ref 999996, .ref 89, .int v]) (S' := SH ++ X) (V' := V) rfl ?_
  refine wl_ld C i1 (by decide +kernel) ?_
  refine wl_call (o := 89) (as := [.int (xs (P + 1).toNatClampNeg)]) (rest := [.int v]) C rfl (t_M_ahead (X := X) (Nat.le_refl _) hm) rfl (by decide) rfl rfl rfl (by decide) hc hs ?_
  exact wl_brT C rfl (by decide) rfl rfl kk

set_option maxRecDepth 20000 in
theorem lc_changed {p : Program} {L : Launch} {e : Env} {s : State} {m : MethodId} {args : Array Value} {below : List Frame} {meth : Method} {c : Code} {cells slots : Nat} {Q : State → Prop} {D : va_G} {E : Nat → ClassId} {r : Nat → Nat} {A : Nat → Prop} {n : Nat} {xs : Nat → Int32} (C : lw_C p L s m args meth c A r n xs) (hc : cells ≤ 194196) (hs : slots ≤ 8513518) {P v : Int32} {X : ai_S} {V V1 V2 : ai_V} (i1 : vp_in (P + 1) n) (i2 : vp_in (P + 2) n) (i3 : vp_in (P + 3) n) (hx : d_X_changed (xs (P + 1).toNatClampNeg) (xs (P + 2).toNatClampNeg) (xs (P + 3).toNatClampNeg) V = some (v, V1)) (hm : d_M_changed (xs (P + 1).toNatClampNeg) (xs (P + 2).toNatClampNeg) (xs (P + 3).toNatClampNeg) V1 = some (v, V2)) (kk : WL p L e s m args below meth c cells slots Q D E r A 1610 [(0, .ref 999996), (1, .ref 0), (2, .ref 89), (3, .ref 118), (4, .int P)] [] (SH ++ X) V2) : WL p L e s m args below meth c cells slots Q D E r A 983 [(0, .ref 999996), (1, .ref 0), (2, .ref 89), (3, .ref 118), (4, .int P)] [] (SH ++ X) V := by
  refine wl_go C hc hs 5 (pc' := 989) (l' := [(0, .ref 999996), (1, .ref 0), (2, .ref 89), (3, .ref 118), (4, .int P)]) (st' := [.int (P + 1), .ref 999996, .ref 0]) (S' := SH ++ X) (V' := V) rfl ?_
  refine wl_ld C i1 (by decide +kernel) ?_
  refine wl_go C hc hs 4 (pc' := 995) (l' := [(0, .ref 999996), (1, .ref 0), (2, .ref 89), (3, .ref 118), (4, .int P)]) (st' := [.int (P + 2), .ref 999996, .int (xs (P + 1).toNatClampNeg), .ref 0]) (S' := SH ++ X) (V' := V) rfl ?_
  refine wl_ld C i2 (by decide +kernel) ?_
  refine wl_go C hc hs 4 (pc' := 1001) (l' := [(0, .ref 999996), (1, .ref 0), (2, .ref 89), (3, .ref 118), (4, .int P)]) (st' := [.int (P + 3), .ref 999996, .int (xs (P + 2).toNatClampNeg), .int (xs (P + 1).toNatClampNeg), .ref 0]) (S' := SH ++ X) (V' := V) rfl ?_
  refine wl_ld C i3 (by decide +kernel) ?_
  refine wl_call (o := 0) (as := [.int (xs (P + 1).toNatClampNeg), .int (xs (P + 2).toNatClampNeg), .int (xs (P + 3).toNatClampNeg)]) (rest := []) C rfl (t_X_changed (X := X) (Nat.le_refl _) hx) rfl (by decide) rfl rfl rfl (by decide) hc hs ?_
  refine wl_go C hc hs 5 (pc' := 1011) (l' := [(0, .ref 999996), (1, .ref 0), (2, .ref 89), (3, .ref 118), (4, .int P)]) (st' := [.int (P + 1), .ref 999996, .ref 89, .int v]) (S' := SH ++ X) (V' := V1) rfl ?_
  refine wl_ld C i1 (by decide +kernel) ?_
  refine wl_go C hc hs 4 (pc' := 1017) (l' := [(0, .ref 999996), (1, .ref 0), (2, .ref 89), (3, .ref 118), (4, .int P)]) (st' := [.int (P + 2), .ref 999996, .int (xs (P + 1).toNatClampNeg), .ref 89, .int v]) (S' := SH ++ X) (V' := V1) rfl ?_
  refine wl_ld C i2 (by decide +kernel) ?_
  refine wl_go C hc hs 4 (pc' := 1023) (l' := [(0, .ref 999996), (1, .ref 0), (2, .ref 89), (3, .ref 118), (4, .int P)]) (st' := [.int (P + 3), .ref 999996, .int (xs (P + 2).toNatClampNeg), .int (xs (P + 1).toNatClampNeg), .ref 89, .int v]) (S' := SH ++ X) (V' := V1) rfl ?_
  refine wl_ld C i3 (by decide +kernel) ?_
  refine wl_call (o := 89) (as := [.int (xs (P + 1).toNatClampNeg), .int (xs (P + 2).toNatClampNeg), .int (xs (P + 3).toNatClampNeg)]) (rest := [.int v]) C rfl (t_M_changed (X := X) (Nat.le_refl _) hm) rfl (by decide) rfl rfl rfl (by decide) hc hs ?_
  exact wl_brT C rfl (by decide) rfl rfl kk

set_option maxRecDepth 20000 in
theorem lc_lasts {p : Program} {L : Launch} {e : Env} {s : State} {m : MethodId} {args : Array Value} {below : List Frame} {meth : Method} {c : Code} {cells slots : Nat} {Q : State → Prop} {D : va_G} {E : Nat → ClassId} {r : Nat → Nat} {A : Nat → Prop} {n : Nat} {xs : Nat → Int32} (C : lw_C p L s m args meth c A r n xs) (hc : cells ≤ 194196) (hs : slots ≤ 8513518) {P v : Int32} {X : ai_S} {V V1 V2 : ai_V}  (hx : d_X_lasts  V = some (v, V1)) (hm : d_M_lasts  V1 = some (v, V2)) (kk : WL p L e s m args below meth c cells slots Q D E r A 1610 [(0, .ref 999996), (1, .ref 0), (2, .ref 89), (3, .ref 118), (4, .int P)] [] (SH ++ X) V2) : WL p L e s m args below meth c cells slots Q D E r A 1032 [(0, .ref 999996), (1, .ref 0), (2, .ref 89), (3, .ref 118), (4, .int P)] [] (SH ++ X) V := by
  refine wl_go C hc hs 1 (pc' := 1033) (l' := [(0, .ref 999996), (1, .ref 0), (2, .ref 89), (3, .ref 118), (4, .int P)]) (st' := [.ref 0]) (S' := SH ++ X) (V' := V) rfl ?_
  refine wl_call (o := 0) (as := []) (rest := []) C rfl (t_X_lasts (X := X) (Nat.le_refl _) hx) rfl (by decide) rfl rfl rfl (by decide) hc hs ?_
  refine wl_go C hc hs 1 (pc' := 1037) (l' := [(0, .ref 999996), (1, .ref 0), (2, .ref 89), (3, .ref 118), (4, .int P)]) (st' := [.ref 89, .int v]) (S' := SH ++ X) (V' := V1) rfl ?_
  refine wl_call (o := 89) (as := []) (rest := [.int v]) C rfl (t_M_lasts (X := X) (Nat.le_refl _) hm) rfl (by decide) rfl rfl rfl (by decide) hc hs ?_
  exact wl_brT C rfl (by decide) rfl rfl kk

set_option maxRecDepth 20000 in
theorem lc_pairs {p : Program} {L : Launch} {e : Env} {s : State} {m : MethodId} {args : Array Value} {below : List Frame} {meth : Method} {c : Code} {cells slots : Nat} {Q : State → Prop} {D : va_G} {E : Nat → ClassId} {r : Nat → Nat} {A : Nat → Prop} {n : Nat} {xs : Nat → Int32} (C : lw_C p L s m args meth c A r n xs) (hc : cells ≤ 194196) (hs : slots ≤ 8513518) {P v : Int32} {X : ai_S} {V V1 V2 : ai_V} (i1 : vp_in (P + 1) n) (hx : d_X_pairs (xs (P + 1).toNatClampNeg) V = some (v, V1)) (hm : d_M_pairs (xs (P + 1).toNatClampNeg) V1 = some (v, V2)) (kk : WL p L e s m args below meth c cells slots Q D E r A 1610 [(0, .ref 999996), (1, .ref 0), (2, .ref 89), (3, .ref 118), (4, .int P)] [] (SH ++ X) V2) : WL p L e s m args below meth c cells slots Q D E r A 1045 [(0, .ref 999996), (1, .ref 0), (2, .ref 89), (3, .ref 118), (4, .int P)] [] (SH ++ X) V := by
  refine wl_go C hc hs 5 (pc' := 1051) (l' := [(0, .ref 999996), (1, .ref 0), (2, .ref 89), (3, .ref 118), (4, .int P)]) (st' := [.int (P + 1), .ref 999996, .ref 0]) (S' := SH ++ X) (V' := V) rfl ?_
  refine wl_ld C i1 (by decide +kernel) ?_
  refine wl_call (o := 0) (as := [.int (xs (P + 1).toNatClampNeg)]) (rest := []) C rfl (t_X_pairs (X := X) (Nat.le_refl _) hx) rfl (by decide) rfl rfl rfl (by decide) hc hs ?_
  refine wl_go C hc hs 5 (pc' := 1061) (l' := [(0, .ref 999996), (1, .ref 0), (2, .ref 89), (3, .ref 118), (4, .int P)]) (st' := [.int (P + 1), .ref 999996, .ref 89, .int v]) (S' := SH ++ X) (V' := V1) rfl ?_
  refine wl_ld C i1 (by decide +kernel) ?_
  refine wl_call (o := 89) (as := [.int (xs (P + 1).toNatClampNeg)]) (rest := [.int v]) C rfl (t_M_pairs (X := X) (Nat.le_refl _) hm) rfl (by decide) rfl rfl rfl (by decide) hc hs ?_
  exact wl_brT C rfl (by decide) rfl rfl kk

set_option maxRecDepth 20000 in
theorem lc_enough {p : Program} {L : Launch} {e : Env} {s : State} {m : MethodId} {args : Array Value} {below : List Frame} {meth : Method} {c : Code} {cells slots : Nat} {Q : State → Prop} {D : va_G} {E : Nat → ClassId} {r : Nat → Nat} {A : Nat → Prop} {n : Nat} {xs : Nat → Int32} (C : lw_C p L s m args meth c A r n xs) (hc : cells ≤ 194196) (hs : slots ≤ 8513518) {P v : Int32} {X : ai_S} {V V1 V2 : ai_V} (i1 : vp_in (P + 1) n) (hx : d_X_enough (xs (P + 1).toNatClampNeg) V = some (v, V1)) (hm : d_M_enough (xs (P + 1).toNatClampNeg) V1 = some (v, V2)) (kk : WL p L e s m args below meth c cells slots Q D E r A 1610 [(0, .ref 999996), (1, .ref 0), (2, .ref 89), (3, .ref 118), (4, .int P)] [] (SH ++ X) V2) : WL p L e s m args below meth c cells slots Q D E r A 1070 [(0, .ref 999996), (1, .ref 0), (2, .ref 89), (3, .ref 118), (4, .int P)] [] (SH ++ X) V := by
  refine wl_go C hc hs 5 (pc' := 1076) (l' := [(0, .ref 999996), (1, .ref 0), (2, .ref 89), (3, .ref 118), (4, .int P)]) (st' := [.int (P + 1), .ref 999996, .ref 0]) (S' := SH ++ X) (V' := V) rfl ?_
  refine wl_ld C i1 (by decide +kernel) ?_
  refine wl_call (o := 0) (as := [.int (xs (P + 1).toNatClampNeg)]) (rest := []) C rfl (t_X_enough (X := X) (Nat.le_refl _) hx) rfl (by decide) rfl rfl rfl (by decide) hc hs ?_
  refine wl_go C hc hs 5 (pc' := 1086) (l' := [(0, .ref 999996), (1, .ref 0), (2, .ref 89), (3, .ref 118), (4, .int P)]) (st' := [.int (P + 1), .ref 999996, .ref 89, .int v]) (S' := SH ++ X) (V' := V1) rfl ?_
  refine wl_ld C i1 (by decide +kernel) ?_
  refine wl_call (o := 89) (as := [.int (xs (P + 1).toNatClampNeg)]) (rest := [.int v]) C rfl (t_M_enough (X := X) (Nat.le_refl _) hm) rfl (by decide) rfl rfl rfl (by decide) hc hs ?_
  exact wl_brT C rfl (by decide) rfl rfl kk

set_option maxRecDepth 20000 in
theorem lc_step {p : Program} {L : Launch} {e : Env} {s : State} {m : MethodId} {args : Array Value} {below : List Frame} {meth : Method} {c : Code} {cells slots : Nat} {Q : State → Prop} {D : va_G} {E : Nat → ClassId} {r : Nat → Nat} {A : Nat → Prop} {n : Nat} {xs : Nat → Int32} (C : lw_C p L s m args meth c A r n xs) (hc : cells ≤ 194196) (hs : slots ≤ 8513518) {P v : Int32} {X : ai_S} {V V1 V2 : ai_V} (i1 : vp_in (P + 1) n) (hx : d_X_step (xs (P + 1).toNatClampNeg) V = some (v, V1)) (hm : d_M_step (xs (P + 1).toNatClampNeg) V1 = some (v, V2)) (kk : WL p L e s m args below meth c cells slots Q D E r A 1610 [(0, .ref 999996), (1, .ref 0), (2, .ref 89), (3, .ref 118), (4, .int P)] [] (SH ++ X) V2) : WL p L e s m args below meth c cells slots Q D E r A 1095 [(0, .ref 999996), (1, .ref 0), (2, .ref 89), (3, .ref 118), (4, .int P)] [] (SH ++ X) V := by
  refine wl_go C hc hs 5 (pc' := 1101) (l' := [(0, .ref 999996), (1, .ref 0), (2, .ref 89), (3, .ref 118), (4, .int P)]) (st' := [.int (P + 1), .ref 999996, .ref 0]) (S' := SH ++ X) (V' := V) rfl ?_
  refine wl_ld C i1 (by decide +kernel) ?_
  refine wl_call (o := 0) (as := [.int (xs (P + 1).toNatClampNeg)]) (rest := []) C rfl (t_X_step (X := X) (Nat.le_refl _) hx) rfl (by decide) rfl rfl rfl (by decide) hc hs ?_
  refine wl_go C hc hs 5 (pc' := 1111) (l' := [(0, .ref 999996), (1, .ref 0), (2, .ref 89), (3, .ref 118), (4, .int P)]) (st' := [.int (P + 1), .ref 999996, .ref 89, .int v]) (S' := SH ++ X) (V' := V1) rfl ?_
  refine wl_ld C i1 (by decide +kernel) ?_
  refine wl_call (o := 89) (as := [.int (xs (P + 1).toNatClampNeg)]) (rest := [.int v]) C rfl (t_M_step (X := X) (Nat.le_refl _) hm) rfl (by decide) rfl rfl rfl (by decide) hc hs ?_
  exact wl_brT C rfl (by decide) rfl rfl kk

set_option maxRecDepth 20000 in
theorem lc_values {p : Program} {L : Launch} {e : Env} {s : State} {m : MethodId} {args : Array Value} {below : List Frame} {meth : Method} {c : Code} {cells slots : Nat} {Q : State → Prop} {D : va_G} {E : Nat → ClassId} {r : Nat → Nat} {A : Nat → Prop} {n : Nat} {xs : Nat → Int32} (C : lw_C p L s m args meth c A r n xs) (hc : cells ≤ 194196) (hs : slots ≤ 8513518) {P v : Int32} {X : ai_S} {V V1 V2 : ai_V}  (hx : d_X_values  V = some (v, V1)) (hm : d_M_values  V1 = some (v, V2)) (kk : WL p L e s m args below meth c cells slots Q D E r A 1610 [(0, .ref 999996), (1, .ref 0), (2, .ref 89), (3, .ref 118), (4, .int P)] [] (SH ++ X) V2) : WL p L e s m args below meth c cells slots Q D E r A 1120 [(0, .ref 999996), (1, .ref 0), (2, .ref 89), (3, .ref 118), (4, .int P)] [] (SH ++ X) V := by
  refine wl_go C hc hs 1 (pc' := 1121) (l' := [(0, .ref 999996), (1, .ref 0), (2, .ref 89), (3, .ref 118), (4, .int P)]) (st' := [.ref 0]) (S' := SH ++ X) (V' := V) rfl ?_
  refine wl_call (o := 0) (as := []) (rest := []) C rfl (t_X_values (X := X) (Nat.le_refl _) hx) rfl (by decide) rfl rfl rfl (by decide) hc hs ?_
  refine wl_go C hc hs 1 (pc' := 1125) (l' := [(0, .ref 999996), (1, .ref 0), (2, .ref 89), (3, .ref 118), (4, .int P)]) (st' := [.ref 89, .int v]) (S' := SH ++ X) (V' := V1) rfl ?_
  refine wl_call (o := 89) (as := []) (rest := [.int v]) C rfl (t_M_values (X := X) (Nat.le_refl _) hm) rfl (by decide) rfl rfl rfl (by decide) hc hs ?_
  exact wl_brT C rfl (by decide) rfl rfl kk

set_option maxRecDepth 20000 in
theorem lc_allot {p : Program} {L : Launch} {e : Env} {s : State} {m : MethodId} {args : Array Value} {below : List Frame} {meth : Method} {c : Code} {cells slots : Nat} {Q : State → Prop} {D : va_G} {E : Nat → ClassId} {r : Nat → Nat} {A : Nat → Prop} {n : Nat} {xs : Nat → Int32} (C : lw_C p L s m args meth c A r n xs) (hc : cells ≤ 194196) (hs : slots ≤ 8513518) {P v : Int32} {X : ai_S} {V V1 V2 : ai_V}  (hx : d_X_allot  V = some (v, V1)) (hm : d_M_allot  V1 = some (v, V2)) (kk : WL p L e s m args below meth c cells slots Q D E r A 1610 [(0, .ref 999996), (1, .ref 0), (2, .ref 89), (3, .ref 118), (4, .int P)] [] (SH ++ X) V2) : WL p L e s m args below meth c cells slots Q D E r A 1133 [(0, .ref 999996), (1, .ref 0), (2, .ref 89), (3, .ref 118), (4, .int P)] [] (SH ++ X) V := by
  refine wl_go C hc hs 1 (pc' := 1134) (l' := [(0, .ref 999996), (1, .ref 0), (2, .ref 89), (3, .ref 118), (4, .int P)]) (st' := [.ref 0]) (S' := SH ++ X) (V' := V) rfl ?_
  refine wl_call (o := 0) (as := []) (rest := []) C rfl (t_X_allot (X := X) (Nat.le_refl _) hx) rfl (by decide) rfl rfl rfl (by decide) hc hs ?_
  refine wl_go C hc hs 1 (pc' := 1138) (l' := [(0, .ref 999996), (1, .ref 0), (2, .ref 89), (3, .ref 118), (4, .int P)]) (st' := [.ref 89, .int v]) (S' := SH ++ X) (V' := V1) rfl ?_
  refine wl_call (o := 89) (as := []) (rest := [.int v]) C rfl (t_M_allot (X := X) (Nat.le_refl _) hm) rfl (by decide) rfl rfl rfl (by decide) hc hs ?_
  exact wl_brT C rfl (by decide) rfl rfl kk

set_option maxRecDepth 20000 in
theorem lc_rents {p : Program} {L : Launch} {e : Env} {s : State} {m : MethodId} {args : Array Value} {below : List Frame} {meth : Method} {c : Code} {cells slots : Nat} {Q : State → Prop} {D : va_G} {E : Nat → ClassId} {r : Nat → Nat} {A : Nat → Prop} {n : Nat} {xs : Nat → Int32} (C : lw_C p L s m args meth c A r n xs) (hc : cells ≤ 194196) (hs : slots ≤ 8513518) {P v : Int32} {X : ai_S} {V V1 V2 : ai_V} (i1 : vp_in (P + 1) n) (hx : d_X_rents (xs (P + 1).toNatClampNeg) V = some (v, V1)) (hm : d_M_rents (xs (P + 1).toNatClampNeg) V1 = some (v, V2)) (kk : WL p L e s m args below meth c cells slots Q D E r A 1610 [(0, .ref 999996), (1, .ref 0), (2, .ref 89), (3, .ref 118), (4, .int P)] [] (SH ++ X) V2) : WL p L e s m args below meth c cells slots Q D E r A 1146 [(0, .ref 999996), (1, .ref 0), (2, .ref 89), (3, .ref 118), (4, .int P)] [] (SH ++ X) V := by
  refine wl_go C hc hs 5 (pc' := 1152) (l' := [(0, .ref 999996), (1, .ref 0), (2, .ref 89), (3, .ref 118), (4, .int P)]) (st' := [.int (P + 1), .ref 999996, .ref 0]) (S' := SH ++ X) (V' := V) rfl ?_
  refine wl_ld C i1 (by decide +kernel) ?_
  refine wl_call (o := 0) (as := [.int (xs (P + 1).toNatClampNeg)]) (rest := []) C rfl (t_X_rents (X := X) (Nat.le_refl _) hx) rfl (by decide) rfl rfl rfl (by decide) hc hs ?_
  refine wl_go C hc hs 5 (pc' := 1162) (l' := [(0, .ref 999996), (1, .ref 0), (2, .ref 89), (3, .ref 118), (4, .int P)]) (st' := [.int (P + 1), .ref 999996, .ref 89, .int v]) (S' := SH ++ X) (V' := V1) rfl ?_
  refine wl_ld C i1 (by decide +kernel) ?_
  refine wl_call (o := 89) (as := [.int (xs (P + 1).toNatClampNeg)]) (rest := [.int v]) C rfl (t_M_rents (X := X) (Nat.le_refl _) hm) rfl (by decide) rfl rfl rfl (by decide) hc hs ?_
  exact wl_brT C rfl (by decide) rfl rfl kk

set_option maxRecDepth 20000 in
theorem lc_rests {p : Program} {L : Launch} {e : Env} {s : State} {m : MethodId} {args : Array Value} {below : List Frame} {meth : Method} {c : Code} {cells slots : Nat} {Q : State → Prop} {D : va_G} {E : Nat → ClassId} {r : Nat → Nat} {A : Nat → Prop} {n : Nat} {xs : Nat → Int32} (C : lw_C p L s m args meth c A r n xs) (hc : cells ≤ 194196) (hs : slots ≤ 8513518) {P v : Int32} {X : ai_S} {V V1 V2 : ai_V} (i1 : vp_in (P + 1) n) (i2 : vp_in (P + 2) n) (i3 : vp_in (P + 3) n) (hx : d_X_rests (xs (P + 1).toNatClampNeg) (xs (P + 2).toNatClampNeg) (xs (P + 3).toNatClampNeg) V = some (v, V1)) (hm : d_M_rests (xs (P + 1).toNatClampNeg) (xs (P + 2).toNatClampNeg) (xs (P + 3).toNatClampNeg) V1 = some (v, V2)) (kk : WL p L e s m args below meth c cells slots Q D E r A 1610 [(0, .ref 999996), (1, .ref 0), (2, .ref 89), (3, .ref 118), (4, .int P)] [] (SH ++ X) V2) : WL p L e s m args below meth c cells slots Q D E r A 1171 [(0, .ref 999996), (1, .ref 0), (2, .ref 89), (3, .ref 118), (4, .int P)] [] (SH ++ X) V := by
  refine wl_go C hc hs 5 (pc' := 1177) (l' := [(0, .ref 999996), (1, .ref 0), (2, .ref 89), (3, .ref 118), (4, .int P)]) (st' := [.int (P + 1), .ref 999996, .ref 0]) (S' := SH ++ X) (V' := V) rfl ?_
  refine wl_ld C i1 (by decide +kernel) ?_
  refine wl_go C hc hs 4 (pc' := 1183) (l' := [(0, .ref 999996), (1, .ref 0), (2, .ref 89), (3, .ref 118), (4, .int P)]) (st' := [.int (P + 2), .ref 999996, .int (xs (P + 1).toNatClampNeg), .ref 0]) (S' := SH ++ X) (V' := V) rfl ?_
  refine wl_ld C i2 (by decide +kernel) ?_
  refine wl_go C hc hs 4 (pc' := 1189) (l' := [(0, .ref 999996), (1, .ref 0), (2, .ref 89), (3, .ref 118), (4, .int P)]) (st' := [.int (P + 3), .ref 999996, .int (xs (P + 2).toNatClampNeg), .int (xs (P + 1).toNatClampNeg), .ref 0]) (S' := SH ++ X) (V' := V) rfl ?_
  refine wl_ld C i3 (by decide +kernel) ?_
  refine wl_call (o := 0) (as := [.int (xs (P + 1).toNatClampNeg), .int (xs (P + 2).toNatClampNeg), .int (xs (P + 3).toNatClampNeg)]) (rest := []) C rfl (t_X_rests (X := X) (Nat.le_refl _) hx) rfl (by decide) rfl rfl rfl (by decide) hc hs ?_
  refine wl_go C hc hs 5 (pc' := 1199) (l' := [(0, .ref 999996), (1, .ref 0), (2, .ref 89), (3, .ref 118), (4, .int P)]) (st' := [.int (P + 1), .ref 999996, .ref 89, .int v]) (S' := SH ++ X) (V' := V1) rfl ?_
  refine wl_ld C i1 (by decide +kernel) ?_
  refine wl_go C hc hs 4 (pc' := 1205) (l' := [(0, .ref 999996), (1, .ref 0), (2, .ref 89), (3, .ref 118), (4, .int P)]) (st' := [.int (P + 2), .ref 999996, .int (xs (P + 1).toNatClampNeg), .ref 89, .int v]) (S' := SH ++ X) (V' := V1) rfl ?_
  refine wl_ld C i2 (by decide +kernel) ?_
  refine wl_go C hc hs 4 (pc' := 1211) (l' := [(0, .ref 999996), (1, .ref 0), (2, .ref 89), (3, .ref 118), (4, .int P)]) (st' := [.int (P + 3), .ref 999996, .int (xs (P + 2).toNatClampNeg), .int (xs (P + 1).toNatClampNeg), .ref 89, .int v]) (S' := SH ++ X) (V' := V1) rfl ?_
  refine wl_ld C i3 (by decide +kernel) ?_
  refine wl_call (o := 89) (as := [.int (xs (P + 1).toNatClampNeg), .int (xs (P + 2).toNatClampNeg), .int (xs (P + 3).toNatClampNeg)]) (rest := [.int v]) C rfl (t_M_rests (X := X) (Nat.le_refl _) hm) rfl (by decide) rfl rfl rfl (by decide) hc hs ?_
  exact wl_brT C rfl (by decide) rfl rfl kk

set_option maxRecDepth 20000 in
theorem lc_peg {p : Program} {L : Launch} {e : Env} {s : State} {m : MethodId} {args : Array Value} {below : List Frame} {meth : Method} {c : Code} {cells slots : Nat} {Q : State → Prop} {D : va_G} {E : Nat → ClassId} {r : Nat → Nat} {A : Nat → Prop} {n : Nat} {xs : Nat → Int32} (C : lw_C p L s m args meth c A r n xs) (hc : cells ≤ 194196) (hs : slots ≤ 8513518) {P v : Int32} {X : ai_S} {V V1 V2 : ai_V} (i1 : vp_in (P + 1) n) (i2 : vp_in (P + 2) n) (hx : d_X_peg (xs (P + 1).toNatClampNeg) (xs (P + 2).toNatClampNeg) V = some (v, V1)) (hm : d_M_peg (xs (P + 1).toNatClampNeg) (xs (P + 2).toNatClampNeg) V1 = some (v, V2)) (kk : WL p L e s m args below meth c cells slots Q D E r A 1610 [(0, .ref 999996), (1, .ref 0), (2, .ref 89), (3, .ref 118), (4, .int P)] [] (SH ++ X) V2) : WL p L e s m args below meth c cells slots Q D E r A 1220 [(0, .ref 999996), (1, .ref 0), (2, .ref 89), (3, .ref 118), (4, .int P)] [] (SH ++ X) V := by
  refine wl_go C hc hs 5 (pc' := 1226) (l' := [(0, .ref 999996), (1, .ref 0), (2, .ref 89), (3, .ref 118), (4, .int P)]) (st' := [.int (P + 1), .ref 999996, .ref 0]) (S' := SH ++ X) (V' := V) rfl ?_
  refine wl_ld C i1 (by decide +kernel) ?_
  refine wl_go C hc hs 4 (pc' := 1232) (l' := [(0, .ref 999996), (1, .ref 0), (2, .ref 89), (3, .ref 118), (4, .int P)]) (st' := [.int (P + 2), .ref 999996, .int (xs (P + 1).toNatClampNeg), .ref 0]) (S' := SH ++ X) (V' := V) rfl ?_
  refine wl_ld C i2 (by decide +kernel) ?_
  refine wl_call (o := 0) (as := [.int (xs (P + 1).toNatClampNeg), .int (xs (P + 2).toNatClampNeg)]) (rest := []) C rfl (t_X_peg (X := X) (Nat.le_refl _) hx) rfl (by decide) rfl rfl rfl (by decide) hc hs ?_
  refine wl_go C hc hs 5 (pc' := 1242) (l' := [(0, .ref 999996), (1, .ref 0), (2, .ref 89), (3, .ref 118), (4, .int P)]) (st' := [.int (P + 1), .ref 999996, .ref 89, .int v]) (S' := SH ++ X) (V' := V1) rfl ?_
  refine wl_ld C i1 (by decide +kernel) ?_
  refine wl_go C hc hs 4 (pc' := 1248) (l' := [(0, .ref 999996), (1, .ref 0), (2, .ref 89), (3, .ref 118), (4, .int P)]) (st' := [.int (P + 2), .ref 999996, .int (xs (P + 1).toNatClampNeg), .ref 89, .int v]) (S' := SH ++ X) (V' := V1) rfl ?_
  refine wl_ld C i2 (by decide +kernel) ?_
  refine wl_call (o := 89) (as := [.int (xs (P + 1).toNatClampNeg), .int (xs (P + 2).toNatClampNeg)]) (rest := [.int v]) C rfl (t_M_peg (X := X) (Nat.le_refl _) hm) rfl (by decide) rfl rfl rfl (by decide) hc hs ?_
  exact wl_brT C rfl (by decide) rfl rfl kk

set_option maxRecDepth 20000 in
theorem lc_forget {p : Program} {L : Launch} {e : Env} {s : State} {m : MethodId} {args : Array Value} {below : List Frame} {meth : Method} {c : Code} {cells slots : Nat} {Q : State → Prop} {D : va_G} {E : Nat → ClassId} {r : Nat → Nat} {A : Nat → Prop} {n : Nat} {xs : Nat → Int32} (C : lw_C p L s m args meth c A r n xs) (hc : cells ≤ 194196) (hs : slots ≤ 8513518) {P v : Int32} {X : ai_S} {V V1 V2 : ai_V}  (hx : d_X_forget  V = some (v, V1)) (hm : d_M_forget  V1 = some (v, V2)) (kk : WL p L e s m args below meth c cells slots Q D E r A 1610 [(0, .ref 999996), (1, .ref 0), (2, .ref 89), (3, .ref 118), (4, .int P)] [] (SH ++ X) V2) : WL p L e s m args below meth c cells slots Q D E r A 1257 [(0, .ref 999996), (1, .ref 0), (2, .ref 89), (3, .ref 118), (4, .int P)] [] (SH ++ X) V := by
  refine wl_go C hc hs 1 (pc' := 1258) (l' := [(0, .ref 999996), (1, .ref 0), (2, .ref 89), (3, .ref 118), (4, .int P)]) (st' := [.ref 0]) (S' := SH ++ X) (V' := V) rfl ?_
  refine wl_call (o := 0) (as := []) (rest := []) C rfl (t_X_forget (X := X) (Nat.le_refl _) hx) rfl (by decide) rfl rfl rfl (by decide) hc hs ?_
  refine wl_go C hc hs 1 (pc' := 1262) (l' := [(0, .ref 999996), (1, .ref 0), (2, .ref 89), (3, .ref 118), (4, .int P)]) (st' := [.ref 89, .int v]) (S' := SH ++ X) (V' := V1) rfl ?_
  refine wl_call (o := 89) (as := []) (rest := [.int v]) C rfl (t_M_forget (X := X) (Nat.le_refl _) hm) rfl (by decide) rfl rfl rfl (by decide) hc hs ?_
  exact wl_brT C rfl (by decide) rfl rfl kk

set_option maxRecDepth 20000 in
theorem lc_trod {p : Program} {L : Launch} {e : Env} {s : State} {m : MethodId} {args : Array Value} {below : List Frame} {meth : Method} {c : Code} {cells slots : Nat} {Q : State → Prop} {D : va_G} {E : Nat → ClassId} {r : Nat → Nat} {A : Nat → Prop} {n : Nat} {xs : Nat → Int32} (C : lw_C p L s m args meth c A r n xs) (hc : cells ≤ 194196) (hs : slots ≤ 8513518) {P v : Int32} {X : ai_S} {V V1 V2 : ai_V}  (hx : d_X_trod  V = some (v, V1)) (hm : d_M_trod  V1 = some (v, V2)) (kk : WL p L e s m args below meth c cells slots Q D E r A 1610 [(0, .ref 999996), (1, .ref 0), (2, .ref 89), (3, .ref 118), (4, .int P)] [] (SH ++ X) V2) : WL p L e s m args below meth c cells slots Q D E r A 1270 [(0, .ref 999996), (1, .ref 0), (2, .ref 89), (3, .ref 118), (4, .int P)] [] (SH ++ X) V := by
  refine wl_go C hc hs 1 (pc' := 1271) (l' := [(0, .ref 999996), (1, .ref 0), (2, .ref 89), (3, .ref 118), (4, .int P)]) (st' := [.ref 0]) (S' := SH ++ X) (V' := V) rfl ?_
  refine wl_call (o := 0) (as := []) (rest := []) C rfl (t_X_trod (X := X) (Nat.le_refl _) hx) rfl (by decide) rfl rfl rfl (by decide) hc hs ?_
  refine wl_go C hc hs 1 (pc' := 1275) (l' := [(0, .ref 999996), (1, .ref 0), (2, .ref 89), (3, .ref 118), (4, .int P)]) (st' := [.ref 89, .int v]) (S' := SH ++ X) (V' := V1) rfl ?_
  refine wl_call (o := 89) (as := []) (rest := [.int v]) C rfl (t_M_trod (X := X) (Nat.le_refl _) hm) rfl (by decide) rfl rfl rfl (by decide) hc hs ?_
  exact wl_brT C rfl (by decide) rfl rfl kk

set_option maxRecDepth 20000 in
theorem lc_ways {p : Program} {L : Launch} {e : Env} {s : State} {m : MethodId} {args : Array Value} {below : List Frame} {meth : Method} {c : Code} {cells slots : Nat} {Q : State → Prop} {D : va_G} {E : Nat → ClassId} {r : Nat → Nat} {A : Nat → Prop} {n : Nat} {xs : Nat → Int32} (C : lw_C p L s m args meth c A r n xs) (hc : cells ≤ 194196) (hs : slots ≤ 8513518) {P v : Int32} {X : ai_S} {V V1 V2 : ai_V} (i1 : vp_in (P + 1) n) (hx : d_X_ways (xs (P + 1).toNatClampNeg) V = some (v, V1)) (hm : d_M_ways (xs (P + 1).toNatClampNeg) V1 = some (v, V2)) (kk : WL p L e s m args below meth c cells slots Q D E r A 1610 [(0, .ref 999996), (1, .ref 0), (2, .ref 89), (3, .ref 118), (4, .int P)] [] (SH ++ X) V2) : WL p L e s m args below meth c cells slots Q D E r A 1283 [(0, .ref 999996), (1, .ref 0), (2, .ref 89), (3, .ref 118), (4, .int P)] [] (SH ++ X) V := by
  refine wl_go C hc hs 5 (pc' := 1289) (l' := [(0, .ref 999996), (1, .ref 0), (2, .ref 89), (3, .ref 118), (4, .int P)]) (st' := [.int (P + 1), .ref 999996, .ref 0]) (S' := SH ++ X) (V' := V) rfl ?_
  refine wl_ld C i1 (by decide +kernel) ?_
  refine wl_call (o := 0) (as := [.int (xs (P + 1).toNatClampNeg)]) (rest := []) C rfl (t_X_ways (X := X) (Nat.le_refl _) hx) rfl (by decide) rfl rfl rfl (by decide) hc hs ?_
  refine wl_go C hc hs 5 (pc' := 1299) (l' := [(0, .ref 999996), (1, .ref 0), (2, .ref 89), (3, .ref 118), (4, .int P)]) (st' := [.int (P + 1), .ref 999996, .ref 89, .int v]) (S' := SH ++ X) (V' := V1) rfl ?_
  refine wl_ld C i1 (by decide +kernel) ?_
  refine wl_call (o := 89) (as := [.int (xs (P + 1).toNatClampNeg)]) (rest := [.int v]) C rfl (t_M_ways (X := X) (Nat.le_refl _) hm) rfl (by decide) rfl rfl rfl (by decide) hc hs ?_
  exact wl_brT C rfl (by decide) rfl rfl kk

set_option maxRecDepth 20000 in
theorem lc_braked {p : Program} {L : Launch} {e : Env} {s : State} {m : MethodId} {args : Array Value} {below : List Frame} {meth : Method} {c : Code} {cells slots : Nat} {Q : State → Prop} {D : va_G} {E : Nat → ClassId} {r : Nat → Nat} {A : Nat → Prop} {n : Nat} {xs : Nat → Int32} (C : lw_C p L s m args meth c A r n xs) (hc : cells ≤ 194196) (hs : slots ≤ 8513518) {P v : Int32} {X : ai_S} {V V1 V2 : ai_V} (i1 : vp_in (P + 1) n) (i2 : vp_in (P + 2) n) (hx : d_X_braked (xs (P + 1).toNatClampNeg) (xs (P + 2).toNatClampNeg) V = some (v, V1)) (hm : d_M_braked (xs (P + 1).toNatClampNeg) (xs (P + 2).toNatClampNeg) V1 = some (v, V2)) (kk : WL p L e s m args below meth c cells slots Q D E r A 1610 [(0, .ref 999996), (1, .ref 0), (2, .ref 89), (3, .ref 118), (4, .int P)] [] (SH ++ X) V2) : WL p L e s m args below meth c cells slots Q D E r A 1308 [(0, .ref 999996), (1, .ref 0), (2, .ref 89), (3, .ref 118), (4, .int P)] [] (SH ++ X) V := by
  refine wl_go C hc hs 5 (pc' := 1314) (l' := [(0, .ref 999996), (1, .ref 0), (2, .ref 89), (3, .ref 118), (4, .int P)]) (st' := [.int (P + 1), .ref 999996, .ref 0]) (S' := SH ++ X) (V' := V) rfl ?_
  refine wl_ld C i1 (by decide +kernel) ?_
  refine wl_go C hc hs 4 (pc' := 1320) (l' := [(0, .ref 999996), (1, .ref 0), (2, .ref 89), (3, .ref 118), (4, .int P)]) (st' := [.int (P + 2), .ref 999996, .int (xs (P + 1).toNatClampNeg), .ref 0]) (S' := SH ++ X) (V' := V) rfl ?_
  refine wl_ld C i2 (by decide +kernel) ?_
  refine wl_call (o := 0) (as := [.int (xs (P + 1).toNatClampNeg), .int (xs (P + 2).toNatClampNeg)]) (rest := []) C rfl (t_X_braked (X := X) (Nat.le_refl _) hx) rfl (by decide) rfl rfl rfl (by decide) hc hs ?_
  refine wl_go C hc hs 5 (pc' := 1330) (l' := [(0, .ref 999996), (1, .ref 0), (2, .ref 89), (3, .ref 118), (4, .int P)]) (st' := [.int (P + 1), .ref 999996, .ref 89, .int v]) (S' := SH ++ X) (V' := V1) rfl ?_
  refine wl_ld C i1 (by decide +kernel) ?_
  refine wl_go C hc hs 4 (pc' := 1336) (l' := [(0, .ref 999996), (1, .ref 0), (2, .ref 89), (3, .ref 118), (4, .int P)]) (st' := [.int (P + 2), .ref 999996, .int (xs (P + 1).toNatClampNeg), .ref 89, .int v]) (S' := SH ++ X) (V' := V1) rfl ?_
  refine wl_ld C i2 (by decide +kernel) ?_
  refine wl_call (o := 89) (as := [.int (xs (P + 1).toNatClampNeg), .int (xs (P + 2).toNatClampNeg)]) (rest := [.int v]) C rfl (t_M_braked (X := X) (Nat.le_refl _) hm) rfl (by decide) rfl rfl rfl (by decide) hc hs ?_
  exact wl_brT C rfl (by decide) rfl rfl kk

set_option maxRecDepth 20000 in
theorem lc_owes {p : Program} {L : Launch} {e : Env} {s : State} {m : MethodId} {args : Array Value} {below : List Frame} {meth : Method} {c : Code} {cells slots : Nat} {Q : State → Prop} {D : va_G} {E : Nat → ClassId} {r : Nat → Nat} {A : Nat → Prop} {n : Nat} {xs : Nat → Int32} (C : lw_C p L s m args meth c A r n xs) (hc : cells ≤ 194196) (hs : slots ≤ 8513518) {P v : Int32} {X : ai_S} {V V1 V2 : ai_V} (i1 : vp_in (P + 1) n) (i2 : vp_in (P + 2) n) (i3 : vp_in (P + 3) n) (hx : d_X_owes (xs (P + 1).toNatClampNeg) (xs (P + 2).toNatClampNeg) (xs (P + 3).toNatClampNeg) V = some (v, V1)) (hm : d_M_owes (xs (P + 1).toNatClampNeg) (xs (P + 2).toNatClampNeg) (xs (P + 3).toNatClampNeg) V1 = some (v, V2)) (kk : WL p L e s m args below meth c cells slots Q D E r A 1610 [(0, .ref 999996), (1, .ref 0), (2, .ref 89), (3, .ref 118), (4, .int P)] [] (SH ++ X) V2) : WL p L e s m args below meth c cells slots Q D E r A 1345 [(0, .ref 999996), (1, .ref 0), (2, .ref 89), (3, .ref 118), (4, .int P)] [] (SH ++ X) V := by
  refine wl_go C hc hs 5 (pc' := 1351) (l' := [(0, .ref 999996), (1, .ref 0), (2, .ref 89), (3, .ref 118), (4, .int P)]) (st' := [.int (P + 1), .ref 999996, .ref 0]) (S' := SH ++ X) (V' := V) rfl ?_
  refine wl_ld C i1 (by decide +kernel) ?_
  refine wl_go C hc hs 4 (pc' := 1357) (l' := [(0, .ref 999996), (1, .ref 0), (2, .ref 89), (3, .ref 118), (4, .int P)]) (st' := [.int (P + 2), .ref 999996, .int (xs (P + 1).toNatClampNeg), .ref 0]) (S' := SH ++ X) (V' := V) rfl ?_
  refine wl_ld C i2 (by decide +kernel) ?_
  refine wl_go C hc hs 4 (pc' := 1363) (l' := [(0, .ref 999996), (1, .ref 0), (2, .ref 89), (3, .ref 118), (4, .int P)]) (st' := [.int (P + 3), .ref 999996, .int (xs (P + 2).toNatClampNeg), .int (xs (P + 1).toNatClampNeg), .ref 0]) (S' := SH ++ X) (V' := V) rfl ?_
  refine wl_ld C i3 (by decide +kernel) ?_
  refine wl_call (o := 0) (as := [.int (xs (P + 1).toNatClampNeg), .int (xs (P + 2).toNatClampNeg), .int (xs (P + 3).toNatClampNeg)]) (rest := []) C rfl (t_X_owes (X := X) (Nat.le_refl _) hx) rfl (by decide) rfl rfl rfl (by decide) hc hs ?_
  refine wl_go C hc hs 5 (pc' := 1373) (l' := [(0, .ref 999996), (1, .ref 0), (2, .ref 89), (3, .ref 118), (4, .int P)]) (st' := [.int (P + 1), .ref 999996, .ref 89, .int v]) (S' := SH ++ X) (V' := V1) rfl ?_
  refine wl_ld C i1 (by decide +kernel) ?_
  refine wl_go C hc hs 4 (pc' := 1379) (l' := [(0, .ref 999996), (1, .ref 0), (2, .ref 89), (3, .ref 118), (4, .int P)]) (st' := [.int (P + 2), .ref 999996, .int (xs (P + 1).toNatClampNeg), .ref 89, .int v]) (S' := SH ++ X) (V' := V1) rfl ?_
  refine wl_ld C i2 (by decide +kernel) ?_
  refine wl_go C hc hs 4 (pc' := 1385) (l' := [(0, .ref 999996), (1, .ref 0), (2, .ref 89), (3, .ref 118), (4, .int P)]) (st' := [.int (P + 3), .ref 999996, .int (xs (P + 2).toNatClampNeg), .int (xs (P + 1).toNatClampNeg), .ref 89, .int v]) (S' := SH ++ X) (V' := V1) rfl ?_
  refine wl_ld C i3 (by decide +kernel) ?_
  refine wl_call (o := 89) (as := [.int (xs (P + 1).toNatClampNeg), .int (xs (P + 2).toNatClampNeg), .int (xs (P + 3).toNatClampNeg)]) (rest := [.int v]) C rfl (t_M_owes (X := X) (Nat.le_refl _) hm) rfl (by decide) rfl rfl rfl (by decide) hc hs ?_
  exact wl_brT C rfl (by decide) rfl rfl kk

set_option maxRecDepth 20000 in
theorem lc_fund {p : Program} {L : Launch} {e : Env} {s : State} {m : MethodId} {args : Array Value} {below : List Frame} {meth : Method} {c : Code} {cells slots : Nat} {Q : State → Prop} {D : va_G} {E : Nat → ClassId} {r : Nat → Nat} {A : Nat → Prop} {n : Nat} {xs : Nat → Int32} (C : lw_C p L s m args meth c A r n xs) (hc : cells ≤ 194196) (hs : slots ≤ 8513518) {P v : Int32} {X : ai_S} {V V1 V2 : ai_V} (i1 : vp_in (P + 1) n) (i2 : vp_in (P + 2) n) (i3 : vp_in (P + 3) n) (hx : d_X_fund (xs (P + 1).toNatClampNeg) (xs (P + 2).toNatClampNeg) (xs (P + 3).toNatClampNeg) V = some (v, V1)) (hm : d_M_fund (xs (P + 1).toNatClampNeg) (xs (P + 2).toNatClampNeg) (xs (P + 3).toNatClampNeg) V1 = some (v, V2)) (kk : WL p L e s m args below meth c cells slots Q D E r A 1610 [(0, .ref 999996), (1, .ref 0), (2, .ref 89), (3, .ref 118), (4, .int P)] [] (SH ++ X) V2) : WL p L e s m args below meth c cells slots Q D E r A 1394 [(0, .ref 999996), (1, .ref 0), (2, .ref 89), (3, .ref 118), (4, .int P)] [] (SH ++ X) V := by
  refine wl_go C hc hs 5 (pc' := 1400) (l' := [(0, .ref 999996), (1, .ref 0), (2, .ref 89), (3, .ref 118), (4, .int P)]) (st' := [.int (P + 1), .ref 999996, .ref 0]) (S' := SH ++ X) (V' := V) rfl ?_
  refine wl_ld C i1 (by decide +kernel) ?_
  refine wl_go C hc hs 4 (pc' := 1406) (l' := [(0, .ref 999996), (1, .ref 0), (2, .ref 89), (3, .ref 118), (4, .int P)]) (st' := [.int (P + 2), .ref 999996, .int (xs (P + 1).toNatClampNeg), .ref 0]) (S' := SH ++ X) (V' := V) rfl ?_
  refine wl_ld C i2 (by decide +kernel) ?_
  refine wl_go C hc hs 4 (pc' := 1412) (l' := [(0, .ref 999996), (1, .ref 0), (2, .ref 89), (3, .ref 118), (4, .int P)]) (st' := [.int (P + 3), .ref 999996, .int (xs (P + 2).toNatClampNeg), .int (xs (P + 1).toNatClampNeg), .ref 0]) (S' := SH ++ X) (V' := V) rfl ?_
  refine wl_ld C i3 (by decide +kernel) ?_
  refine wl_call (o := 0) (as := [.int (xs (P + 1).toNatClampNeg), .int (xs (P + 2).toNatClampNeg), .int (xs (P + 3).toNatClampNeg)]) (rest := []) C rfl (t_X_fund (X := X) (Nat.le_refl _) hx) rfl (by decide) rfl rfl rfl (by decide) hc hs ?_
  refine wl_go C hc hs 5 (pc' := 1422) (l' := [(0, .ref 999996), (1, .ref 0), (2, .ref 89), (3, .ref 118), (4, .int P)]) (st' := [.int (P + 1), .ref 999996, .ref 89, .int v]) (S' := SH ++ X) (V' := V1) rfl ?_
  refine wl_ld C i1 (by decide +kernel) ?_
  refine wl_go C hc hs 4 (pc' := 1428) (l' := [(0, .ref 999996), (1, .ref 0), (2, .ref 89), (3, .ref 118), (4, .int P)]) (st' := [.int (P + 2), .ref 999996, .int (xs (P + 1).toNatClampNeg), .ref 89, .int v]) (S' := SH ++ X) (V' := V1) rfl ?_
  refine wl_ld C i2 (by decide +kernel) ?_
  refine wl_go C hc hs 4 (pc' := 1434) (l' := [(0, .ref 999996), (1, .ref 0), (2, .ref 89), (3, .ref 118), (4, .int P)]) (st' := [.int (P + 3), .ref 999996, .int (xs (P + 2).toNatClampNeg), .int (xs (P + 1).toNatClampNeg), .ref 89, .int v]) (S' := SH ++ X) (V' := V1) rfl ?_
  refine wl_ld C i3 (by decide +kernel) ?_
  refine wl_call (o := 89) (as := [.int (xs (P + 1).toNatClampNeg), .int (xs (P + 2).toNatClampNeg), .int (xs (P + 3).toNatClampNeg)]) (rest := [.int v]) C rfl (t_M_fund (X := X) (Nat.le_refl _) hm) rfl (by decide) rfl rfl rfl (by decide) hc hs ?_
  exact wl_brT C rfl (by decide) rfl rfl kk

set_option maxRecDepth 20000 in
theorem lc_years {p : Program} {L : Launch} {e : Env} {s : State} {m : MethodId} {args : Array Value} {below : List Frame} {meth : Method} {c : Code} {cells slots : Nat} {Q : State → Prop} {D : va_G} {E : Nat → ClassId} {r : Nat → Nat} {A : Nat → Prop} {n : Nat} {xs : Nat → Int32} (C : lw_C p L s m args meth c A r n xs) (hc : cells ≤ 194196) (hs : slots ≤ 8513518) {P v : Int32} {X : ai_S} {V V1 V2 : ai_V} (i1 : vp_in (P + 1) n) (i2 : vp_in (P + 2) n) (hx : d_X_years (xs (P + 1).toNatClampNeg) (xs (P + 2).toNatClampNeg) V = some (v, V1)) (hm : d_M_years (xs (P + 1).toNatClampNeg) (xs (P + 2).toNatClampNeg) V1 = some (v, V2)) (kk : WL p L e s m args below meth c cells slots Q D E r A 1610 [(0, .ref 999996), (1, .ref 0), (2, .ref 89), (3, .ref 118), (4, .int P)] [] (SH ++ X) V2) : WL p L e s m args below meth c cells slots Q D E r A 1443 [(0, .ref 999996), (1, .ref 0), (2, .ref 89), (3, .ref 118), (4, .int P)] [] (SH ++ X) V := by
  refine wl_go C hc hs 5 (pc' := 1449) (l' := [(0, .ref 999996), (1, .ref 0), (2, .ref 89), (3, .ref 118), (4, .int P)]) (st' := [.int (P + 1), .ref 999996, .ref 0]) (S' := SH ++ X) (V' := V) rfl ?_
  refine wl_ld C i1 (by decide +kernel) ?_
  refine wl_go C hc hs 4 (pc' := 1455) (l' := [(0, .ref 999996), (1, .ref 0), (2, .ref 89), (3, .ref 118), (4, .int P)]) (st' := [.int (P + 2), .ref 999996, .int (xs (P + 1).toNatClampNeg), .ref 0]) (S' := SH ++ X) (V' := V) rfl ?_
  refine wl_ld C i2 (by decide +kernel) ?_
  refine wl_call (o := 0) (as := [.int (xs (P + 1).toNatClampNeg), .int (xs (P + 2).toNatClampNeg)]) (rest := []) C rfl (t_X_years (X := X) (Nat.le_refl _) hx) rfl (by decide) rfl rfl rfl (by decide) hc hs ?_
  refine wl_go C hc hs 5 (pc' := 1465) (l' := [(0, .ref 999996), (1, .ref 0), (2, .ref 89), (3, .ref 118), (4, .int P)]) (st' := [.int (P + 1), .ref 999996, .ref 89, .int v]) (S' := SH ++ X) (V' := V1) rfl ?_
  refine wl_ld C i1 (by decide +kernel) ?_
  refine wl_go C hc hs 4 (pc' := 1471) (l' := [(0, .ref 999996), (1, .ref 0), (2, .ref 89), (3, .ref 118), (4, .int P)]) (st' := [.int (P + 2), .ref 999996, .int (xs (P + 1).toNatClampNeg), .ref 89, .int v]) (S' := SH ++ X) (V' := V1) rfl ?_
  refine wl_ld C i2 (by decide +kernel) ?_
  refine wl_call (o := 89) (as := [.int (xs (P + 1).toNatClampNeg), .int (xs (P + 2).toNatClampNeg)]) (rest := [.int v]) C rfl (t_M_years (X := X) (Nat.le_refl _) hm) rfl (by decide) rfl rfl rfl (by decide) hc hs ?_
  exact wl_brT C rfl (by decide) rfl rfl kk

set_option maxRecDepth 20000 in
theorem lc_keep {p : Program} {L : Launch} {e : Env} {s : State} {m : MethodId} {args : Array Value} {below : List Frame} {meth : Method} {c : Code} {cells slots : Nat} {Q : State → Prop} {D : va_G} {E : Nat → ClassId} {r : Nat → Nat} {A : Nat → Prop} {n : Nat} {xs : Nat → Int32} (C : lw_C p L s m args meth c A r n xs) (hc : cells ≤ 194196) (hs : slots ≤ 8513518) {P v : Int32} {X : ai_S} {V V1 V2 : ai_V} (i1 : vp_in (P + 1) n) (hx : d_X_keep (xs (P + 1).toNatClampNeg) V = some (v, V1)) (hm : d_M_keep (xs (P + 1).toNatClampNeg) V1 = some (v, V2)) (kk : WL p L e s m args below meth c cells slots Q D E r A 1610 [(0, .ref 999996), (1, .ref 0), (2, .ref 89), (3, .ref 118), (4, .int P)] [] (SH ++ X) V2) : WL p L e s m args below meth c cells slots Q D E r A 1480 [(0, .ref 999996), (1, .ref 0), (2, .ref 89), (3, .ref 118), (4, .int P)] [] (SH ++ X) V := by
  refine wl_go C hc hs 5 (pc' := 1486) (l' := [(0, .ref 999996), (1, .ref 0), (2, .ref 89), (3, .ref 118), (4, .int P)]) (st' := [.int (P + 1), .ref 999996, .ref 0]) (S' := SH ++ X) (V' := V) rfl ?_
  refine wl_ld C i1 (by decide +kernel) ?_
  refine wl_call (o := 0) (as := [.int (xs (P + 1).toNatClampNeg)]) (rest := []) C rfl (t_X_keep (X := X) (Nat.le_refl _) hx) rfl (by decide) rfl rfl rfl (by decide) hc hs ?_
  refine wl_go C hc hs 5 (pc' := 1496) (l' := [(0, .ref 999996), (1, .ref 0), (2, .ref 89), (3, .ref 118), (4, .int P)]) (st' := [.int (P + 1), .ref 999996, .ref 89, .int v]) (S' := SH ++ X) (V' := V1) rfl ?_
  refine wl_ld C i1 (by decide +kernel) ?_
  refine wl_call (o := 89) (as := [.int (xs (P + 1).toNatClampNeg)]) (rest := [.int v]) C rfl (t_M_keep (X := X) (Nat.le_refl _) hm) rfl (by decide) rfl rfl rfl (by decide) hc hs ?_
  exact wl_brT C rfl (by decide) rfl rfl kk

set_option maxRecDepth 20000 in
theorem lc_again {p : Program} {L : Launch} {e : Env} {s : State} {m : MethodId} {args : Array Value} {below : List Frame} {meth : Method} {c : Code} {cells slots : Nat} {Q : State → Prop} {D : va_G} {E : Nat → ClassId} {r : Nat → Nat} {A : Nat → Prop} {n : Nat} {xs : Nat → Int32} (C : lw_C p L s m args meth c A r n xs) (hc : cells ≤ 194196) (hs : slots ≤ 8513518) {P v : Int32} {X : ai_S} {V V1 V2 : ai_V} (i1 : vp_in (P + 1) n) (hx : d_X_again (xs (P + 1).toNatClampNeg) V = some (v, V1)) (hm : d_M_again (xs (P + 1).toNatClampNeg) V1 = some (v, V2)) (kk : WL p L e s m args below meth c cells slots Q D E r A 1610 [(0, .ref 999996), (1, .ref 0), (2, .ref 89), (3, .ref 118), (4, .int P)] [] (SH ++ X) V2) : WL p L e s m args below meth c cells slots Q D E r A 1505 [(0, .ref 999996), (1, .ref 0), (2, .ref 89), (3, .ref 118), (4, .int P)] [] (SH ++ X) V := by
  refine wl_go C hc hs 5 (pc' := 1511) (l' := [(0, .ref 999996), (1, .ref 0), (2, .ref 89), (3, .ref 118), (4, .int P)]) (st' := [.int (P + 1), .ref 999996, .ref 0]) (S' := SH ++ X) (V' := V) rfl ?_
  refine wl_ld C i1 (by decide +kernel) ?_
  refine wl_call (o := 0) (as := [.int (xs (P + 1).toNatClampNeg)]) (rest := []) C rfl (t_X_again (X := X) (Nat.le_refl _) hx) rfl (by decide) rfl rfl rfl (by decide) hc hs ?_
  refine wl_go C hc hs 5 (pc' := 1521) (l' := [(0, .ref 999996), (1, .ref 0), (2, .ref 89), (3, .ref 118), (4, .int P)]) (st' := [.int (P + 1), .ref 999996, .ref 89, .int v]) (S' := SH ++ X) (V' := V1) rfl ?_
  refine wl_ld C i1 (by decide +kernel) ?_
  refine wl_call (o := 89) (as := [.int (xs (P + 1).toNatClampNeg)]) (rest := [.int v]) C rfl (t_M_again (X := X) (Nat.le_refl _) hm) rfl (by decide) rfl rfl rfl (by decide) hc hs ?_
  exact wl_brT C rfl (by decide) rfl rfl kk

set_option maxRecDepth 20000 in
theorem lc_count {p : Program} {L : Launch} {e : Env} {s : State} {m : MethodId} {args : Array Value} {below : List Frame} {meth : Method} {c : Code} {cells slots : Nat} {Q : State → Prop} {D : va_G} {E : Nat → ClassId} {r : Nat → Nat} {A : Nat → Prop} {n : Nat} {xs : Nat → Int32} (C : lw_C p L s m args meth c A r n xs) (hc : cells ≤ 194196) (hs : slots ≤ 8513518) {P v : Int32} {X : ai_S} {V V1 : ai_V} (i1 : vp_in (P + 1) n) (hx : d_X_count (xs (P + 1).toNatClampNeg) V = some v) (hm : d_M_count (xs (P + 1).toNatClampNeg) V = some (v, V1)) (kk : WL p L e s m args below meth c cells slots Q D E r A 1610 [(0, .ref 999996), (1, .ref 0), (2, .ref 89), (3, .ref 118), (4, .int P)] [] (SH ++ X) V1) : WL p L e s m args below meth c cells slots Q D E r A 1530 [(0, .ref 999996), (1, .ref 0), (2, .ref 89), (3, .ref 118), (4, .int P)] [] (SH ++ X) V := by
  refine wl_go C hc hs 5 (pc' := 1536) (l' := [(0, .ref 999996), (1, .ref 0), (2, .ref 89), (3, .ref 118), (4, .int P)]) (st' := [.int (P + 1), .ref 999996, .ref 0]) (S' := SH ++ X) (V' := V) rfl ?_
  refine wl_ld C i1 (by decide +kernel) ?_
  refine wl_call (o := 0) (as := [.int (xs (P + 1).toNatClampNeg)]) (rest := []) C rfl (t_X_count (X := X) (Nat.le_refl _) hx) rfl (by decide) rfl rfl rfl (by decide) hc hs ?_
  refine wl_go C hc hs 5 (pc' := 1546) (l' := [(0, .ref 999996), (1, .ref 0), (2, .ref 89), (3, .ref 118), (4, .int P)]) (st' := [.int (P + 1), .ref 999996, .ref 89, .int v]) (S' := SH ++ X) (V' := V) rfl ?_
  refine wl_ld C i1 (by decide +kernel) ?_
  refine wl_call (o := 89) (as := [.int (xs (P + 1).toNatClampNeg)]) (rest := [.int v]) C rfl (t_M_count (X := X) (Nat.le_refl _) hm) rfl (by decide) rfl rfl rfl (by decide) hc hs ?_
  exact wl_brT C rfl (by decide) rfl rfl kk
