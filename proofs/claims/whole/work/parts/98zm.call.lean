/-! ===== the law: one call ===== -/
theorem gf {w : Fw} {V V' : ai_V} (F : Fr w V V') (hd : fw_f 64 2 w.1 = false) : gr V' 64 2 = gr V 64 2 := (F.1 64 2 hd).2.2
/-- the table is there or not -/
def JX (X : ai_S) (V : ai_V) : Prop := (X = [] ∧ gr V 64 2 = some 68) ∨ (X = [kcost] ∧ gr V 64 2 = some 119)
theorem JX.to {X : ai_S} {V V' : ai_V} (h : JX X V) (e : gr V' 64 2 = gr V 64 2) : JX X V' := by
  unfold JX at *
  rw [e]; exact h
theorem sel_or : ∀ (l : List (Int32 × Nat)) (d : Nat) (y : Int32), ai_sel l d y = d ∨ ∃ q, q ∈ l ∧ y = q.1 := by
  intro l
  induction l with
  | nil => intro d y; exact Or.inl rfl
  | cons a l ih =>
    intro d y
    by_cases e : y = a.1
    · exact Or.inr ⟨a, List.mem_cons_self .., e⟩
    · rw [ai_sel, if_neg e]
      rcases ih d y with h | ⟨q, h1, h2⟩
      · exact Or.inl h
      · exact Or.inr ⟨q, List.mem_cons_of_mem _ h1, h2⟩
def lw_sw : List (Int32 × Nat) := [(0, 236), (1, 261), (2, 286), (3, 299), (4, 312), (5, 380), (6, 436), (7, 473), (8, 510), (9, 547), (10, 608), (11, 645), (12, 658), (13, 671), (14, 684), (15, 721), (16, 758), (17, 783), (18, 808), (19, 845), (20, 870), (21, 895), (22, 932), (23, 945), (24, 958), (25, 983), (26, 1032), (27, 1045), (28, 1070), (29, 1095), (30, 1120), (31, 1133), (32, 1146), (33, 1171), (34, 1220), (35, 1257), (36, 1270), (37, 1283), (38, 1308), (39, 1345), (40, 1394), (41, 1443), (42, 1480), (43, 1505), (44, 1530), (45, 1555)]
theorem cs_sign {p : Program} {L : Launch} {e : Env} {s : State} {m : MethodId} {args : Array Value} {below : List Frame} {meth : Method} {c : Code} {cells slots : Nat} {Q : State → Prop} {D : va_G} {E : Nat → ClassId} {r : Nat → Nat} {A : Nat → Prop} {n : Nat} {xs : Nat → Int32} (C : lw_C p L s m args meth c A r n xs) (hc : cells + 1 ≤ 194196) (hs : slots + 12000 ≤ 8513518) {P : Int32} {X : ai_S} {V : ai_V} {N : Nat} (hI : Inv N V) (hN : N < 512) (hJ : JX X V) (i1 : vp_in (P + 1) n) (i2 : vp_in (P + 2) n) (i3 : vp_in (P + 3) n) (i4 : vp_in (P + 4) n)
    (go : ∀ (k j : Nat) (r' : Nat → Nat) (X' : ai_S) (V2 : ai_V), k ≤ cells + 1 → j ≤ slots + 12000 → lw_C p L s m args meth c A r' n xs → Inv (N + 1) V2 → JX X' V2 → WL p L e s m args below meth c k j Q D E r' A 1610 [(0, .ref 999996), (1, .ref 0), (2, .ref 89), (3, .ref 118), (4, .int P)] [] (SH ++ X') V2) : WL p L e s m args below meth c cells slots Q D E r A 236 [(0, .ref 999996), (1, .ref 0), (2, .ref 89), (3, .ref 118), (4, .int P)] [] (SH ++ X) V := by
  have hc0 : cells ≤ 194196 := by omega
  have hs0 : slots ≤ 8513518 := by omega
  obtain ⟨v, V1, V2, e1, e2, hI2⟩ := st_sign hI hN (xs (P + 1).toNatClampNeg)
  exact lc_sign C hc0 hs0 i1 e1 e2 (go cells slots r X V2 (by omega) (by omega) C hI2 (hJ.to ((gf (V' := V2) (fr_M_sign _ _ _ e2) rfl).trans (gf (V' := V1) (fr_X_sign _ _ _ e1) rfl))))
theorem cs_end {p : Program} {L : Launch} {e : Env} {s : State} {m : MethodId} {args : Array Value} {below : List Frame} {meth : Method} {c : Code} {cells slots : Nat} {Q : State → Prop} {D : va_G} {E : Nat → ClassId} {r : Nat → Nat} {A : Nat → Prop} {n : Nat} {xs : Nat → Int32} (C : lw_C p L s m args meth c A r n xs) (hc : cells + 1 ≤ 194196) (hs : slots + 12000 ≤ 8513518) {P : Int32} {X : ai_S} {V : ai_V} {N : Nat} (hI : Inv N V) (hN : N < 512) (hJ : JX X V) (i1 : vp_in (P + 1) n) (i2 : vp_in (P + 2) n) (i3 : vp_in (P + 3) n) (i4 : vp_in (P + 4) n)
    (go : ∀ (k j : Nat) (r' : Nat → Nat) (X' : ai_S) (V2 : ai_V), k ≤ cells + 1 → j ≤ slots + 12000 → lw_C p L s m args meth c A r' n xs → Inv (N + 1) V2 → JX X' V2 → WL p L e s m args below meth c k j Q D E r' A 1610 [(0, .ref 999996), (1, .ref 0), (2, .ref 89), (3, .ref 118), (4, .int P)] [] (SH ++ X') V2) : WL p L e s m args below meth c cells slots Q D E r A 261 [(0, .ref 999996), (1, .ref 0), (2, .ref 89), (3, .ref 118), (4, .int P)] [] (SH ++ X) V := by
  have hc0 : cells ≤ 194196 := by omega
  have hs0 : slots ≤ 8513518 := by omega
  obtain ⟨v, V1, V2, e1, e2, hI2⟩ := st_end hI hN (xs (P + 1).toNatClampNeg)
  exact lc_end C hc0 hs0 i1 e1 e2 (go cells slots r X V2 (by omega) (by omega) C hI2 (hJ.to ((gf (V' := V2) (fr_M_end _ _ _ e2) rfl).trans (gf (V' := V1) (fr_X_end _ _ _ e1) rfl))))
theorem cs_house {p : Program} {L : Launch} {e : Env} {s : State} {m : MethodId} {args : Array Value} {below : List Frame} {meth : Method} {c : Code} {cells slots : Nat} {Q : State → Prop} {D : va_G} {E : Nat → ClassId} {r : Nat → Nat} {A : Nat → Prop} {n : Nat} {xs : Nat → Int32} (C : lw_C p L s m args meth c A r n xs) (hc : cells + 1 ≤ 194196) (hs : slots + 12000 ≤ 8513518) {P : Int32} {X : ai_S} {V : ai_V} {N : Nat} (hI : Inv N V) (hN : N < 512) (hJ : JX X V) (i1 : vp_in (P + 1) n) (i2 : vp_in (P + 2) n) (i3 : vp_in (P + 3) n) (i4 : vp_in (P + 4) n)
    (go : ∀ (k j : Nat) (r' : Nat → Nat) (X' : ai_S) (V2 : ai_V), k ≤ cells + 1 → j ≤ slots + 12000 → lw_C p L s m args meth c A r' n xs → Inv (N + 1) V2 → JX X' V2 → WL p L e s m args below meth c k j Q D E r' A 1610 [(0, .ref 999996), (1, .ref 0), (2, .ref 89), (3, .ref 118), (4, .int P)] [] (SH ++ X') V2) : WL p L e s m args below meth c cells slots Q D E r A 286 [(0, .ref 999996), (1, .ref 0), (2, .ref 89), (3, .ref 118), (4, .int P)] [] (SH ++ X) V := by
  have hc0 : cells ≤ 194196 := by omega
  have hs0 : slots ≤ 8513518 := by omega
  obtain ⟨v, V1, V2, e1, e2, hI2⟩ := st_house hI hN 
  exact lc_house C hc0 hs0  e1 e2 (go cells slots r X V2 (by omega) (by omega) C hI2 (hJ.to ((gf (V' := V2) (fr_M_house _ _ e2) rfl).trans (gf (V' := V1) (fr_X_house _ _ e1) rfl))))
theorem cs_rule {p : Program} {L : Launch} {e : Env} {s : State} {m : MethodId} {args : Array Value} {below : List Frame} {meth : Method} {c : Code} {cells slots : Nat} {Q : State → Prop} {D : va_G} {E : Nat → ClassId} {r : Nat → Nat} {A : Nat → Prop} {n : Nat} {xs : Nat → Int32} (C : lw_C p L s m args meth c A r n xs) (hc : cells + 1 ≤ 194196) (hs : slots + 12000 ≤ 8513518) {P : Int32} {X : ai_S} {V : ai_V} {N : Nat} (hI : Inv N V) (hN : N < 512) (hJ : JX X V) (i1 : vp_in (P + 1) n) (i2 : vp_in (P + 2) n) (i3 : vp_in (P + 3) n) (i4 : vp_in (P + 4) n)
    (go : ∀ (k j : Nat) (r' : Nat → Nat) (X' : ai_S) (V2 : ai_V), k ≤ cells + 1 → j ≤ slots + 12000 → lw_C p L s m args meth c A r' n xs → Inv (N + 1) V2 → JX X' V2 → WL p L e s m args below meth c k j Q D E r' A 1610 [(0, .ref 999996), (1, .ref 0), (2, .ref 89), (3, .ref 118), (4, .int P)] [] (SH ++ X') V2) : WL p L e s m args below meth c cells slots Q D E r A 299 [(0, .ref 999996), (1, .ref 0), (2, .ref 89), (3, .ref 118), (4, .int P)] [] (SH ++ X) V := by
  have hc0 : cells ≤ 194196 := by omega
  have hs0 : slots ≤ 8513518 := by omega
  obtain ⟨v, V1, V2, e1, e2, hI2⟩ := st_rule hI hN 
  exact lc_rule C hc0 hs0  e1 e2 (go cells slots r X V2 (by omega) (by omega) C hI2 (hJ.to ((gf (V' := V2) (fr_M_rule _ _ e2) rfl).trans (gf (V' := V1) (fr_X_rule _ _ e1) rfl))))
theorem cs_lodger {p : Program} {L : Launch} {e : Env} {s : State} {m : MethodId} {args : Array Value} {below : List Frame} {meth : Method} {c : Code} {cells slots : Nat} {Q : State → Prop} {D : va_G} {E : Nat → ClassId} {r : Nat → Nat} {A : Nat → Prop} {n : Nat} {xs : Nat → Int32} (C : lw_C p L s m args meth c A r n xs) (hc : cells + 1 ≤ 194196) (hs : slots + 12000 ≤ 8513518) {P : Int32} {X : ai_S} {V : ai_V} {N : Nat} (hI : Inv N V) (hN : N < 512) (hJ : JX X V) (i1 : vp_in (P + 1) n) (i2 : vp_in (P + 2) n) (i3 : vp_in (P + 3) n) (i4 : vp_in (P + 4) n)
    (go : ∀ (k j : Nat) (r' : Nat → Nat) (X' : ai_S) (V2 : ai_V), k ≤ cells + 1 → j ≤ slots + 12000 → lw_C p L s m args meth c A r' n xs → Inv (N + 1) V2 → JX X' V2 → WL p L e s m args below meth c k j Q D E r' A 1610 [(0, .ref 999996), (1, .ref 0), (2, .ref 89), (3, .ref 118), (4, .int P)] [] (SH ++ X') V2) : WL p L e s m args below meth c cells slots Q D E r A 312 [(0, .ref 999996), (1, .ref 0), (2, .ref 89), (3, .ref 118), (4, .int P)] [] (SH ++ X) V := by
  have hc0 : cells ≤ 194196 := by omega
  have hs0 : slots ≤ 8513518 := by omega
  have hs6 : slots + 6 ≤ 8513518 := by omega
  have hl0 := C.2.2.2.2.2.2.2
  rcases st_lodger hI hN (xs (P + 1).toNatClampNeg) (xs (P + 2).toNatClampNeg) with ⟨v, V2, hx, hm, ht, hg, hI2⟩ | ⟨hw, u, V2, hm, ht, hI2⟩
  · exact lc_lodger_r C hc0 hs0 i1 i2 hx hm ht hg (go cells slots r X V2 (by omega) (by omega) C hI2 (hJ.to (gf (V := sl V 118 0 v.toInt64) (V' := V2) (fr_M_lodger _ _ _ _ hm) rfl)))
  · have hway : nx_way L 256 [.ref 0, .int (xs (P + 1).toNatClampNeg), .int (xs (P + 2).toNatClampNeg)] (SH ++ X) V := by
      rcases hw with h | ⟨h, h2⟩
      · exact nx_lodger0 hl0 h
      · exact nx_lodger1 hl0 h h2
    exact lc_lodger_x C hc hs6 i1 i2 hway hm ht (go (cells + 1) (slots + 6) r X V2 (by omega) (by omega) C hI2 (hJ.to (gf (V' := V2) (fr_M_lodger _ _ _ _ hm) rfl)))
theorem cs_debt {p : Program} {L : Launch} {e : Env} {s : State} {m : MethodId} {args : Array Value} {below : List Frame} {meth : Method} {c : Code} {cells slots : Nat} {Q : State → Prop} {D : va_G} {E : Nat → ClassId} {r : Nat → Nat} {A : Nat → Prop} {n : Nat} {xs : Nat → Int32} (C : lw_C p L s m args meth c A r n xs) (hc : cells + 1 ≤ 194196) (hs : slots + 12000 ≤ 8513518) {P : Int32} {X : ai_S} {V : ai_V} {N : Nat} (hI : Inv N V) (hN : N < 512) (hJ : JX X V) (i1 : vp_in (P + 1) n) (i2 : vp_in (P + 2) n) (i3 : vp_in (P + 3) n) (i4 : vp_in (P + 4) n)
    (go : ∀ (k j : Nat) (r' : Nat → Nat) (X' : ai_S) (V2 : ai_V), k ≤ cells + 1 → j ≤ slots + 12000 → lw_C p L s m args meth c A r' n xs → Inv (N + 1) V2 → JX X' V2 → WL p L e s m args below meth c k j Q D E r' A 1610 [(0, .ref 999996), (1, .ref 0), (2, .ref 89), (3, .ref 118), (4, .int P)] [] (SH ++ X') V2) : WL p L e s m args below meth c cells slots Q D E r A 380 [(0, .ref 999996), (1, .ref 0), (2, .ref 89), (3, .ref 118), (4, .int P)] [] (SH ++ X) V := by
  have hc0 : cells ≤ 194196 := by omega
  have hs0 : slots ≤ 8513518 := by omega
  have hs6 : slots + 6 ≤ 8513518 := by omega
  have hl0 := C.2.2.2.2.2.2.2
  rcases st_debt hI hN (xs (P + 1).toNatClampNeg) with ⟨v, V2, hx, hm, ht, hg, hI2⟩ | ⟨hw, u, V2, hm, ht, hI2⟩
  · exact lc_debt_r C hc0 hs0 i1 hx hm ht hg (go cells slots r X V2 (by omega) (by omega) C hI2 (hJ.to (gf (V := sl V 118 0 v.toInt64) (V' := V2) (fr_M_debt _ _ _ hm) rfl)))
  · have hway : nx_way L 257 [.ref 0, .int (xs (P + 1).toNatClampNeg)] (SH ++ X) V := by
      exact nx_debt0 hl0 hw
    exact lc_debt_x C hc hs6 i1 hway hm ht (go (cells + 1) (slots + 6) r X V2 (by omega) (by omega) C hI2 (hJ.to (gf (V' := V2) (fr_M_debt _ _ _ hm) rfl)))
theorem cs_lifts {p : Program} {L : Launch} {e : Env} {s : State} {m : MethodId} {args : Array Value} {below : List Frame} {meth : Method} {c : Code} {cells slots : Nat} {Q : State → Prop} {D : va_G} {E : Nat → ClassId} {r : Nat → Nat} {A : Nat → Prop} {n : Nat} {xs : Nat → Int32} (C : lw_C p L s m args meth c A r n xs) (hc : cells + 1 ≤ 194196) (hs : slots + 12000 ≤ 8513518) {P : Int32} {X : ai_S} {V : ai_V} {N : Nat} (hI : Inv N V) (hN : N < 512) (hJ : JX X V) (i1 : vp_in (P + 1) n) (i2 : vp_in (P + 2) n) (i3 : vp_in (P + 3) n) (i4 : vp_in (P + 4) n)
    (go : ∀ (k j : Nat) (r' : Nat → Nat) (X' : ai_S) (V2 : ai_V), k ≤ cells + 1 → j ≤ slots + 12000 → lw_C p L s m args meth c A r' n xs → Inv (N + 1) V2 → JX X' V2 → WL p L e s m args below meth c k j Q D E r' A 1610 [(0, .ref 999996), (1, .ref 0), (2, .ref 89), (3, .ref 118), (4, .int P)] [] (SH ++ X') V2) : WL p L e s m args below meth c cells slots Q D E r A 436 [(0, .ref 999996), (1, .ref 0), (2, .ref 89), (3, .ref 118), (4, .int P)] [] (SH ++ X) V := by
  have hc0 : cells ≤ 194196 := by omega
  have hs0 : slots ≤ 8513518 := by omega
  obtain ⟨v, V1, V2, e1, e2, hI2⟩ := st_lifts hI hN (xs (P + 1).toNatClampNeg) (xs (P + 2).toNatClampNeg)
  exact lc_lifts C hc0 hs0 i1 i2 e1 e2 (go cells slots r X V2 (by omega) (by omega) C hI2 (hJ.to ((gf (V' := V2) (fr_M_lifts _ _ _ _ e2) rfl).trans (gf (V' := V1) (fr_X_lifts _ _ _ _ e1) rfl))))
theorem cs_set {p : Program} {L : Launch} {e : Env} {s : State} {m : MethodId} {args : Array Value} {below : List Frame} {meth : Method} {c : Code} {cells slots : Nat} {Q : State → Prop} {D : va_G} {E : Nat → ClassId} {r : Nat → Nat} {A : Nat → Prop} {n : Nat} {xs : Nat → Int32} (C : lw_C p L s m args meth c A r n xs) (hc : cells + 1 ≤ 194196) (hs : slots + 12000 ≤ 8513518) {P : Int32} {X : ai_S} {V : ai_V} {N : Nat} (hI : Inv N V) (hN : N < 512) (hJ : JX X V) (i1 : vp_in (P + 1) n) (i2 : vp_in (P + 2) n) (i3 : vp_in (P + 3) n) (i4 : vp_in (P + 4) n)
    (go : ∀ (k j : Nat) (r' : Nat → Nat) (X' : ai_S) (V2 : ai_V), k ≤ cells + 1 → j ≤ slots + 12000 → lw_C p L s m args meth c A r' n xs → Inv (N + 1) V2 → JX X' V2 → WL p L e s m args below meth c k j Q D E r' A 1610 [(0, .ref 999996), (1, .ref 0), (2, .ref 89), (3, .ref 118), (4, .int P)] [] (SH ++ X') V2) : WL p L e s m args below meth c cells slots Q D E r A 473 [(0, .ref 999996), (1, .ref 0), (2, .ref 89), (3, .ref 118), (4, .int P)] [] (SH ++ X) V := by
  have hc0 : cells ≤ 194196 := by omega
  have hs0 : slots ≤ 8513518 := by omega
  obtain ⟨v, V1, V2, e1, e2, hI2⟩ := st_set hI hN (xs (P + 1).toNatClampNeg) (xs (P + 2).toNatClampNeg)
  exact lc_set C hc0 hs0 i1 i2 e1 e2 (go cells slots r X V2 (by omega) (by omega) C hI2 (hJ.to ((gf (V' := V2) (fr_M_set _ _ _ _ e2) rfl).trans (gf (V' := V1) (fr_X_set _ _ _ _ e1) rfl))))
theorem cs_brake {p : Program} {L : Launch} {e : Env} {s : State} {m : MethodId} {args : Array Value} {below : List Frame} {meth : Method} {c : Code} {cells slots : Nat} {Q : State → Prop} {D : va_G} {E : Nat → ClassId} {r : Nat → Nat} {A : Nat → Prop} {n : Nat} {xs : Nat → Int32} (C : lw_C p L s m args meth c A r n xs) (hc : cells + 1 ≤ 194196) (hs : slots + 12000 ≤ 8513518) {P : Int32} {X : ai_S} {V : ai_V} {N : Nat} (hI : Inv N V) (hN : N < 512) (hJ : JX X V) (i1 : vp_in (P + 1) n) (i2 : vp_in (P + 2) n) (i3 : vp_in (P + 3) n) (i4 : vp_in (P + 4) n)
    (go : ∀ (k j : Nat) (r' : Nat → Nat) (X' : ai_S) (V2 : ai_V), k ≤ cells + 1 → j ≤ slots + 12000 → lw_C p L s m args meth c A r' n xs → Inv (N + 1) V2 → JX X' V2 → WL p L e s m args below meth c k j Q D E r' A 1610 [(0, .ref 999996), (1, .ref 0), (2, .ref 89), (3, .ref 118), (4, .int P)] [] (SH ++ X') V2) : WL p L e s m args below meth c cells slots Q D E r A 510 [(0, .ref 999996), (1, .ref 0), (2, .ref 89), (3, .ref 118), (4, .int P)] [] (SH ++ X) V := by
  have hc0 : cells ≤ 194196 := by omega
  have hs0 : slots ≤ 8513518 := by omega
  obtain ⟨v, V1, V2, e1, e2, hI2⟩ := st_brake hI hN (xs (P + 1).toNatClampNeg) (xs (P + 2).toNatClampNeg)
  exact lc_brake C hc0 hs0 i1 i2 e1 e2 (go cells slots r X V2 (by omega) (by omega) C hI2 (hJ.to ((gf (V' := V2) (fr_M_brake _ _ _ _ e2) rfl).trans (gf (V' := V1) (fr_X_brake _ _ _ _ e1) rfl))))
theorem cs_sheet {p : Program} {L : Launch} {e : Env} {s : State} {m : MethodId} {args : Array Value} {below : List Frame} {meth : Method} {c : Code} {cells slots : Nat} {Q : State → Prop} {D : va_G} {E : Nat → ClassId} {r : Nat → Nat} {A : Nat → Prop} {n : Nat} {xs : Nat → Int32} (C : lw_C p L s m args meth c A r n xs) (hc : cells + 1 ≤ 194196) (hs : slots + 12000 ≤ 8513518) {P : Int32} {X : ai_S} {V : ai_V} {N : Nat} (hI : Inv N V) (hN : N < 512) (hJ : JX X V) (i1 : vp_in (P + 1) n) (i2 : vp_in (P + 2) n) (i3 : vp_in (P + 3) n) (i4 : vp_in (P + 4) n)
    (go : ∀ (k j : Nat) (r' : Nat → Nat) (X' : ai_S) (V2 : ai_V), k ≤ cells + 1 → j ≤ slots + 12000 → lw_C p L s m args meth c A r' n xs → Inv (N + 1) V2 → JX X' V2 → WL p L e s m args below meth c k j Q D E r' A 1610 [(0, .ref 999996), (1, .ref 0), (2, .ref 89), (3, .ref 118), (4, .int P)] [] (SH ++ X') V2) : WL p L e s m args below meth c cells slots Q D E r A 547 [(0, .ref 999996), (1, .ref 0), (2, .ref 89), (3, .ref 118), (4, .int P)] [] (SH ++ X) V := by
  have hc0 : cells ≤ 194196 := by omega
  have hs0 : slots ≤ 8513518 := by omega
  obtain ⟨v, V1, V2, e1, e2, hI2⟩ := st_sheet hI hN (xs (P + 1).toNatClampNeg) (xs (P + 2).toNatClampNeg) (xs (P + 3).toNatClampNeg) (xs (P + 4).toNatClampNeg)
  exact lc_sheet C hc0 hs0 i1 i2 i3 i4 e1 e2 (go cells slots r X V2 (by omega) (by omega) C hI2 (hJ.to ((gf (V' := V2) (fr_M_sheet _ _ _ _ _ _ e2) rfl).trans (gf (V' := V1) (fr_X_sheet _ _ _ _ _ _ e1) rfl))))
theorem cs_quarter {p : Program} {L : Launch} {e : Env} {s : State} {m : MethodId} {args : Array Value} {below : List Frame} {meth : Method} {c : Code} {cells slots : Nat} {Q : State → Prop} {D : va_G} {E : Nat → ClassId} {r : Nat → Nat} {A : Nat → Prop} {n : Nat} {xs : Nat → Int32} (C : lw_C p L s m args meth c A r n xs) (hc : cells + 1 ≤ 194196) (hs : slots + 12000 ≤ 8513518) {P : Int32} {X : ai_S} {V : ai_V} {N : Nat} (hI : Inv N V) (hN : N < 512) (hJ : JX X V) (i1 : vp_in (P + 1) n) (i2 : vp_in (P + 2) n) (i3 : vp_in (P + 3) n) (i4 : vp_in (P + 4) n)
    (go : ∀ (k j : Nat) (r' : Nat → Nat) (X' : ai_S) (V2 : ai_V), k ≤ cells + 1 → j ≤ slots + 12000 → lw_C p L s m args meth c A r' n xs → Inv (N + 1) V2 → JX X' V2 → WL p L e s m args below meth c k j Q D E r' A 1610 [(0, .ref 999996), (1, .ref 0), (2, .ref 89), (3, .ref 118), (4, .int P)] [] (SH ++ X') V2) : WL p L e s m args below meth c cells slots Q D E r A 608 [(0, .ref 999996), (1, .ref 0), (2, .ref 89), (3, .ref 118), (4, .int P)] [] (SH ++ X) V := by
  have hc0 : cells ≤ 194196 := by omega
  have hs0 : slots ≤ 8513518 := by omega
  obtain ⟨v, V1, V2, e1, e2, hI2⟩ := st_quarter hI hN (xs (P + 1).toNatClampNeg) (xs (P + 2).toNatClampNeg)
  exact lc_quarter C hc0 hs0 i1 i2 e1 e2 (go cells slots r X V2 (by omega) (by omega) C hI2 (hJ.to ((gf (V' := V2) (fr_M_quarter _ _ _ _ e2) rfl).trans (gf (V' := V1) (fr_X_quarter _ _ _ _ e1) rfl))))
theorem cs_day {p : Program} {L : Launch} {e : Env} {s : State} {m : MethodId} {args : Array Value} {below : List Frame} {meth : Method} {c : Code} {cells slots : Nat} {Q : State → Prop} {D : va_G} {E : Nat → ClassId} {r : Nat → Nat} {A : Nat → Prop} {n : Nat} {xs : Nat → Int32} (C : lw_C p L s m args meth c A r n xs) (hc : cells + 1 ≤ 194196) (hs : slots + 12000 ≤ 8513518) {P : Int32} {X : ai_S} {V : ai_V} {N : Nat} (hI : Inv N V) (hN : N < 512) (hJ : JX X V) (i1 : vp_in (P + 1) n) (i2 : vp_in (P + 2) n) (i3 : vp_in (P + 3) n) (i4 : vp_in (P + 4) n)
    (go : ∀ (k j : Nat) (r' : Nat → Nat) (X' : ai_S) (V2 : ai_V), k ≤ cells + 1 → j ≤ slots + 12000 → lw_C p L s m args meth c A r' n xs → Inv (N + 1) V2 → JX X' V2 → WL p L e s m args below meth c k j Q D E r' A 1610 [(0, .ref 999996), (1, .ref 0), (2, .ref 89), (3, .ref 118), (4, .int P)] [] (SH ++ X') V2) : WL p L e s m args below meth c cells slots Q D E r A 645 [(0, .ref 999996), (1, .ref 0), (2, .ref 89), (3, .ref 118), (4, .int P)] [] (SH ++ X) V := by
  have hc0 : cells ≤ 194196 := by omega
  have hs0 : slots ≤ 8513518 := by omega
  obtain ⟨v, V1, V2, e1, e2, hI2⟩ := st_day hI hN 
  exact lc_day C hc0 hs0  e1 e2 (go cells slots r X V2 (by omega) (by omega) C hI2 (hJ.to ((gf (V' := V2) (fr_M_day _ _ e2) rfl).trans (gf (V' := V1) (fr_X_day _ _ e1) rfl))))
theorem cs_look {p : Program} {L : Launch} {e : Env} {s : State} {m : MethodId} {args : Array Value} {below : List Frame} {meth : Method} {c : Code} {cells slots : Nat} {Q : State → Prop} {D : va_G} {E : Nat → ClassId} {r : Nat → Nat} {A : Nat → Prop} {n : Nat} {xs : Nat → Int32} (C : lw_C p L s m args meth c A r n xs) (hc : cells + 1 ≤ 194196) (hs : slots + 12000 ≤ 8513518) {P : Int32} {X : ai_S} {V : ai_V} {N : Nat} (hI : Inv N V) (hN : N < 512) (hJ : JX X V) (i1 : vp_in (P + 1) n) (i2 : vp_in (P + 2) n) (i3 : vp_in (P + 3) n) (i4 : vp_in (P + 4) n)
    (go : ∀ (k j : Nat) (r' : Nat → Nat) (X' : ai_S) (V2 : ai_V), k ≤ cells + 1 → j ≤ slots + 12000 → lw_C p L s m args meth c A r' n xs → Inv (N + 1) V2 → JX X' V2 → WL p L e s m args below meth c k j Q D E r' A 1610 [(0, .ref 999996), (1, .ref 0), (2, .ref 89), (3, .ref 118), (4, .int P)] [] (SH ++ X') V2) : WL p L e s m args below meth c cells slots Q D E r A 658 [(0, .ref 999996), (1, .ref 0), (2, .ref 89), (3, .ref 118), (4, .int P)] [] (SH ++ X) V := by
  have hc0 : cells ≤ 194196 := by omega
  have hs0 : slots ≤ 8513518 := by omega
  obtain ⟨v, V1, V2, e1, e2, hI2⟩ := st_look hI hN 
  exact lc_look C hc0 hs0  e1 e2 (go cells slots r X V2 (by omega) (by omega) C hI2 (hJ.to ((gf (V' := V2) (fr_M_look _ _ e2) rfl).trans (gf (V' := V1) (fr_X_look _ _ e1) rfl))))
theorem cs_undo {p : Program} {L : Launch} {e : Env} {s : State} {m : MethodId} {args : Array Value} {below : List Frame} {meth : Method} {c : Code} {cells slots : Nat} {Q : State → Prop} {D : va_G} {E : Nat → ClassId} {r : Nat → Nat} {A : Nat → Prop} {n : Nat} {xs : Nat → Int32} (C : lw_C p L s m args meth c A r n xs) (hc : cells + 1 ≤ 194196) (hs : slots + 12000 ≤ 8513518) {P : Int32} {X : ai_S} {V : ai_V} {N : Nat} (hI : Inv N V) (hN : N < 512) (hJ : JX X V) (i1 : vp_in (P + 1) n) (i2 : vp_in (P + 2) n) (i3 : vp_in (P + 3) n) (i4 : vp_in (P + 4) n)
    (go : ∀ (k j : Nat) (r' : Nat → Nat) (X' : ai_S) (V2 : ai_V), k ≤ cells + 1 → j ≤ slots + 12000 → lw_C p L s m args meth c A r' n xs → Inv (N + 1) V2 → JX X' V2 → WL p L e s m args below meth c k j Q D E r' A 1610 [(0, .ref 999996), (1, .ref 0), (2, .ref 89), (3, .ref 118), (4, .int P)] [] (SH ++ X') V2) : WL p L e s m args below meth c cells slots Q D E r A 671 [(0, .ref 999996), (1, .ref 0), (2, .ref 89), (3, .ref 118), (4, .int P)] [] (SH ++ X) V := by
  have hc0 : cells ≤ 194196 := by omega
  have hs0 : slots ≤ 8513518 := by omega
  obtain ⟨v, V1, V2, e1, e2, hI2⟩ := st_undo hI hN 
  exact lc_undo C hc0 hs0  e1 e2 (go cells slots r X V2 (by omega) (by omega) C hI2 (hJ.to ((gf (V' := V2) (fr_M_undo _ _ e2) rfl).trans (gf (V' := V1) (fr_X_undo _ _ e1) rfl))))
theorem cs_fewest {p : Program} {L : Launch} {e : Env} {s : State} {m : MethodId} {args : Array Value} {below : List Frame} {meth : Method} {c : Code} {cells slots : Nat} {Q : State → Prop} {D : va_G} {E : Nat → ClassId} {r : Nat → Nat} {A : Nat → Prop} {n : Nat} {xs : Nat → Int32} (C : lw_C p L s m args meth c A r n xs) (hc : cells + 1 ≤ 194196) (hs : slots + 12000 ≤ 8513518) {P : Int32} {X : ai_S} {V : ai_V} {N : Nat} (hI : Inv N V) (hN : N < 512) (hJ : JX X V) (i1 : vp_in (P + 1) n) (i2 : vp_in (P + 2) n) (i3 : vp_in (P + 3) n) (i4 : vp_in (P + 4) n)
    (go : ∀ (k j : Nat) (r' : Nat → Nat) (X' : ai_S) (V2 : ai_V), k ≤ cells + 1 → j ≤ slots + 12000 → lw_C p L s m args meth c A r' n xs → Inv (N + 1) V2 → JX X' V2 → WL p L e s m args below meth c k j Q D E r' A 1610 [(0, .ref 999996), (1, .ref 0), (2, .ref 89), (3, .ref 118), (4, .int P)] [] (SH ++ X') V2) : WL p L e s m args below meth c cells slots Q D E r A 684 [(0, .ref 999996), (1, .ref 0), (2, .ref 89), (3, .ref 118), (4, .int P)] [] (SH ++ X) V := by
  have hc0 : cells ≤ 194196 := by omega
  have hs0 : slots ≤ 8513518 := by omega
  rcases st_fewest hI hN (xs (P + 1).toNatClampNeg) (xs (P + 2).toNatClampNeg) with ⟨V2, hx, hm, hI2, g⟩ | ⟨g, v, V1, V2, hx, hm, hI2, g2⟩ | ⟨g, v, V1, V2, hx, hm, hI2, g2⟩
  · exact lc_fewest_no C hc0 hs0 i1 i2 hx hm (go cells slots r X V2 (by omega) (by omega) C hI2 (hJ.to g))
  · have hX : X = [kcost] := by
      rcases hJ with ⟨-, h⟩ | ⟨h, -⟩
      · rw [g] at h; exact absurd h (by decide)
      · exact h
    subst hX
    exact lc_fewest (X0 := []) C hc0 hs0 i1 i2 hx hm (go cells slots r [kcost] V2 (by omega) (by omega) C hI2 (Or.inr ⟨rfl, g2⟩))
  · have hX : X = [] := by
      rcases hJ with ⟨h, -⟩ | ⟨-, h⟩
      · exact h
      · rw [g] at h; exact absurd h (by decide)
    subst hX
    exact lc_fewest_0 C hc hs i1 i2 g hI.x.2.2.2 hx hm (fun r' hr' => go (cells + 1) (slots + 12000) r' [kcost] V2 (by omega) (by omega) (C.move hr') hI2 (Or.inr ⟨rfl, g2⟩))
theorem cs_driest {p : Program} {L : Launch} {e : Env} {s : State} {m : MethodId} {args : Array Value} {below : List Frame} {meth : Method} {c : Code} {cells slots : Nat} {Q : State → Prop} {D : va_G} {E : Nat → ClassId} {r : Nat → Nat} {A : Nat → Prop} {n : Nat} {xs : Nat → Int32} (C : lw_C p L s m args meth c A r n xs) (hc : cells + 1 ≤ 194196) (hs : slots + 12000 ≤ 8513518) {P : Int32} {X : ai_S} {V : ai_V} {N : Nat} (hI : Inv N V) (hN : N < 512) (hJ : JX X V) (i1 : vp_in (P + 1) n) (i2 : vp_in (P + 2) n) (i3 : vp_in (P + 3) n) (i4 : vp_in (P + 4) n)
    (go : ∀ (k j : Nat) (r' : Nat → Nat) (X' : ai_S) (V2 : ai_V), k ≤ cells + 1 → j ≤ slots + 12000 → lw_C p L s m args meth c A r' n xs → Inv (N + 1) V2 → JX X' V2 → WL p L e s m args below meth c k j Q D E r' A 1610 [(0, .ref 999996), (1, .ref 0), (2, .ref 89), (3, .ref 118), (4, .int P)] [] (SH ++ X') V2) : WL p L e s m args below meth c cells slots Q D E r A 721 [(0, .ref 999996), (1, .ref 0), (2, .ref 89), (3, .ref 118), (4, .int P)] [] (SH ++ X) V := by
  have hc0 : cells ≤ 194196 := by omega
  have hs0 : slots ≤ 8513518 := by omega
  rcases st_driest hI hN (xs (P + 1).toNatClampNeg) (xs (P + 2).toNatClampNeg) with ⟨V2, hx, hm, hI2, g⟩ | ⟨g, v, V1, V2, hx, hm, hI2, g2⟩ | ⟨g, v, V1, V2, hx, hm, hI2, g2⟩
  · exact lc_driest_no C hc0 hs0 i1 i2 hx hm (go cells slots r X V2 (by omega) (by omega) C hI2 (hJ.to g))
  · have hX : X = [kcost] := by
      rcases hJ with ⟨-, h⟩ | ⟨h, -⟩
      · rw [g] at h; exact absurd h (by decide)
      · exact h
    subst hX
    exact lc_driest (X0 := []) C hc0 hs0 i1 i2 hx hm (go cells slots r [kcost] V2 (by omega) (by omega) C hI2 (Or.inr ⟨rfl, g2⟩))
  · have hX : X = [] := by
      rcases hJ with ⟨h, -⟩ | ⟨-, h⟩
      · exact h
      · rw [g] at h; exact absurd h (by decide)
    subst hX
    exact lc_driest_0 C hc hs i1 i2 g hI.x.2.2.2 hx hm (fun r' hr' => go (cells + 1) (slots + 12000) r' [kcost] V2 (by omega) (by omega) (C.move hr') hI2 (Or.inr ⟨rfl, g2⟩))
theorem cs_pays {p : Program} {L : Launch} {e : Env} {s : State} {m : MethodId} {args : Array Value} {below : List Frame} {meth : Method} {c : Code} {cells slots : Nat} {Q : State → Prop} {D : va_G} {E : Nat → ClassId} {r : Nat → Nat} {A : Nat → Prop} {n : Nat} {xs : Nat → Int32} (C : lw_C p L s m args meth c A r n xs) (hc : cells + 1 ≤ 194196) (hs : slots + 12000 ≤ 8513518) {P : Int32} {X : ai_S} {V : ai_V} {N : Nat} (hI : Inv N V) (hN : N < 512) (hJ : JX X V) (i1 : vp_in (P + 1) n) (i2 : vp_in (P + 2) n) (i3 : vp_in (P + 3) n) (i4 : vp_in (P + 4) n)
    (go : ∀ (k j : Nat) (r' : Nat → Nat) (X' : ai_S) (V2 : ai_V), k ≤ cells + 1 → j ≤ slots + 12000 → lw_C p L s m args meth c A r' n xs → Inv (N + 1) V2 → JX X' V2 → WL p L e s m args below meth c k j Q D E r' A 1610 [(0, .ref 999996), (1, .ref 0), (2, .ref 89), (3, .ref 118), (4, .int P)] [] (SH ++ X') V2) : WL p L e s m args below meth c cells slots Q D E r A 758 [(0, .ref 999996), (1, .ref 0), (2, .ref 89), (3, .ref 118), (4, .int P)] [] (SH ++ X) V := by
  have hc0 : cells ≤ 194196 := by omega
  have hs0 : slots ≤ 8513518 := by omega
  obtain ⟨v, V1, V2, e1, e2, hI2⟩ := st_pays hI hN (xs (P + 1).toNatClampNeg)
  exact lc_pays C hc0 hs0 i1 e1 e2 (go cells slots r X V2 (by omega) (by omega) C hI2 (hJ.to ((gf (V' := V2) (fr_M_pays _ _ _ e2) rfl).trans (gf (V' := V1) (fr_X_pays _ _ _ e1) rfl))))
theorem cs_strongest {p : Program} {L : Launch} {e : Env} {s : State} {m : MethodId} {args : Array Value} {below : List Frame} {meth : Method} {c : Code} {cells slots : Nat} {Q : State → Prop} {D : va_G} {E : Nat → ClassId} {r : Nat → Nat} {A : Nat → Prop} {n : Nat} {xs : Nat → Int32} (C : lw_C p L s m args meth c A r n xs) (hc : cells + 1 ≤ 194196) (hs : slots + 12000 ≤ 8513518) {P : Int32} {X : ai_S} {V : ai_V} {N : Nat} (hI : Inv N V) (hN : N < 512) (hJ : JX X V) (i1 : vp_in (P + 1) n) (i2 : vp_in (P + 2) n) (i3 : vp_in (P + 3) n) (i4 : vp_in (P + 4) n)
    (go : ∀ (k j : Nat) (r' : Nat → Nat) (X' : ai_S) (V2 : ai_V), k ≤ cells + 1 → j ≤ slots + 12000 → lw_C p L s m args meth c A r' n xs → Inv (N + 1) V2 → JX X' V2 → WL p L e s m args below meth c k j Q D E r' A 1610 [(0, .ref 999996), (1, .ref 0), (2, .ref 89), (3, .ref 118), (4, .int P)] [] (SH ++ X') V2) : WL p L e s m args below meth c cells slots Q D E r A 783 [(0, .ref 999996), (1, .ref 0), (2, .ref 89), (3, .ref 118), (4, .int P)] [] (SH ++ X) V := by
  have hc0 : cells ≤ 194196 := by omega
  have hs0 : slots ≤ 8513518 := by omega
  obtain ⟨v, V1, V2, e1, e2, hI2⟩ := st_strongest hI hN (xs (P + 1).toNatClampNeg)
  exact lc_strongest C hc0 hs0 i1 e1 e2 (go cells slots r X V2 (by omega) (by omega) C hI2 (hJ.to ((gf (V' := V2) (fr_M_strongest _ _ _ e2) rfl).trans (gf (V' := V1) (fr_X_strongest _ _ _ e1) rfl))))
theorem cs_roomy {p : Program} {L : Launch} {e : Env} {s : State} {m : MethodId} {args : Array Value} {below : List Frame} {meth : Method} {c : Code} {cells slots : Nat} {Q : State → Prop} {D : va_G} {E : Nat → ClassId} {r : Nat → Nat} {A : Nat → Prop} {n : Nat} {xs : Nat → Int32} (C : lw_C p L s m args meth c A r n xs) (hc : cells + 1 ≤ 194196) (hs : slots + 12000 ≤ 8513518) {P : Int32} {X : ai_S} {V : ai_V} {N : Nat} (hI : Inv N V) (hN : N < 512) (hJ : JX X V) (i1 : vp_in (P + 1) n) (i2 : vp_in (P + 2) n) (i3 : vp_in (P + 3) n) (i4 : vp_in (P + 4) n)
    (go : ∀ (k j : Nat) (r' : Nat → Nat) (X' : ai_S) (V2 : ai_V), k ≤ cells + 1 → j ≤ slots + 12000 → lw_C p L s m args meth c A r' n xs → Inv (N + 1) V2 → JX X' V2 → WL p L e s m args below meth c k j Q D E r' A 1610 [(0, .ref 999996), (1, .ref 0), (2, .ref 89), (3, .ref 118), (4, .int P)] [] (SH ++ X') V2) : WL p L e s m args below meth c cells slots Q D E r A 808 [(0, .ref 999996), (1, .ref 0), (2, .ref 89), (3, .ref 118), (4, .int P)] [] (SH ++ X) V := by
  have hc0 : cells ≤ 194196 := by omega
  have hs0 : slots ≤ 8513518 := by omega
  obtain ⟨v, V1, V2, e1, e2, hI2⟩ := st_roomy hI hN (xs (P + 1).toNatClampNeg) (xs (P + 2).toNatClampNeg)
  exact lc_roomy C hc0 hs0 i1 i2 e1 e2 (go cells slots r X V2 (by omega) (by omega) C hI2 (hJ.to ((gf (V' := V2) (fr_M_roomy _ _ _ _ e2) rfl).trans (gf (V' := V1) (fr_X_roomy _ _ _ _ e1) rfl))))
theorem cs_even {p : Program} {L : Launch} {e : Env} {s : State} {m : MethodId} {args : Array Value} {below : List Frame} {meth : Method} {c : Code} {cells slots : Nat} {Q : State → Prop} {D : va_G} {E : Nat → ClassId} {r : Nat → Nat} {A : Nat → Prop} {n : Nat} {xs : Nat → Int32} (C : lw_C p L s m args meth c A r n xs) (hc : cells + 1 ≤ 194196) (hs : slots + 12000 ≤ 8513518) {P : Int32} {X : ai_S} {V : ai_V} {N : Nat} (hI : Inv N V) (hN : N < 512) (hJ : JX X V) (i1 : vp_in (P + 1) n) (i2 : vp_in (P + 2) n) (i3 : vp_in (P + 3) n) (i4 : vp_in (P + 4) n)
    (go : ∀ (k j : Nat) (r' : Nat → Nat) (X' : ai_S) (V2 : ai_V), k ≤ cells + 1 → j ≤ slots + 12000 → lw_C p L s m args meth c A r' n xs → Inv (N + 1) V2 → JX X' V2 → WL p L e s m args below meth c k j Q D E r' A 1610 [(0, .ref 999996), (1, .ref 0), (2, .ref 89), (3, .ref 118), (4, .int P)] [] (SH ++ X') V2) : WL p L e s m args below meth c cells slots Q D E r A 845 [(0, .ref 999996), (1, .ref 0), (2, .ref 89), (3, .ref 118), (4, .int P)] [] (SH ++ X) V := by
  have hc0 : cells ≤ 194196 := by omega
  have hs0 : slots ≤ 8513518 := by omega
  obtain ⟨v, V1, V2, e1, e2, hI2⟩ := st_even hI hN (xs (P + 1).toNatClampNeg)
  exact lc_even C hc0 hs0 i1 e1 e2 (go cells slots r X V2 (by omega) (by omega) C hI2 (hJ.to ((gf (V' := V2) (fr_M_even _ _ _ e2) rfl).trans (gf (V' := V1) (fr_X_even _ _ _ e1) rfl))))
theorem cs_thirst {p : Program} {L : Launch} {e : Env} {s : State} {m : MethodId} {args : Array Value} {below : List Frame} {meth : Method} {c : Code} {cells slots : Nat} {Q : State → Prop} {D : va_G} {E : Nat → ClassId} {r : Nat → Nat} {A : Nat → Prop} {n : Nat} {xs : Nat → Int32} (C : lw_C p L s m args meth c A r n xs) (hc : cells + 1 ≤ 194196) (hs : slots + 12000 ≤ 8513518) {P : Int32} {X : ai_S} {V : ai_V} {N : Nat} (hI : Inv N V) (hN : N < 512) (hJ : JX X V) (i1 : vp_in (P + 1) n) (i2 : vp_in (P + 2) n) (i3 : vp_in (P + 3) n) (i4 : vp_in (P + 4) n)
    (go : ∀ (k j : Nat) (r' : Nat → Nat) (X' : ai_S) (V2 : ai_V), k ≤ cells + 1 → j ≤ slots + 12000 → lw_C p L s m args meth c A r' n xs → Inv (N + 1) V2 → JX X' V2 → WL p L e s m args below meth c k j Q D E r' A 1610 [(0, .ref 999996), (1, .ref 0), (2, .ref 89), (3, .ref 118), (4, .int P)] [] (SH ++ X') V2) : WL p L e s m args below meth c cells slots Q D E r A 870 [(0, .ref 999996), (1, .ref 0), (2, .ref 89), (3, .ref 118), (4, .int P)] [] (SH ++ X) V := by
  have hc0 : cells ≤ 194196 := by omega
  have hs0 : slots ≤ 8513518 := by omega
  obtain ⟨v, V1, V2, e1, e2, hI2⟩ := st_thirst hI hN (xs (P + 1).toNatClampNeg)
  exact lc_thirst C hc0 hs0 i1 e1 e2 (go cells slots r X V2 (by omega) (by omega) C hI2 (hJ.to ((gf (V' := V2) (fr_M_thirst _ _ _ e2) rfl).trans (gf (V' := V1) (fr_X_thirst _ _ _ e1) rfl))))
theorem cs_bath {p : Program} {L : Launch} {e : Env} {s : State} {m : MethodId} {args : Array Value} {below : List Frame} {meth : Method} {c : Code} {cells slots : Nat} {Q : State → Prop} {D : va_G} {E : Nat → ClassId} {r : Nat → Nat} {A : Nat → Prop} {n : Nat} {xs : Nat → Int32} (C : lw_C p L s m args meth c A r n xs) (hc : cells + 1 ≤ 194196) (hs : slots + 12000 ≤ 8513518) {P : Int32} {X : ai_S} {V : ai_V} {N : Nat} (hI : Inv N V) (hN : N < 512) (hJ : JX X V) (i1 : vp_in (P + 1) n) (i2 : vp_in (P + 2) n) (i3 : vp_in (P + 3) n) (i4 : vp_in (P + 4) n)
    (go : ∀ (k j : Nat) (r' : Nat → Nat) (X' : ai_S) (V2 : ai_V), k ≤ cells + 1 → j ≤ slots + 12000 → lw_C p L s m args meth c A r' n xs → Inv (N + 1) V2 → JX X' V2 → WL p L e s m args below meth c k j Q D E r' A 1610 [(0, .ref 999996), (1, .ref 0), (2, .ref 89), (3, .ref 118), (4, .int P)] [] (SH ++ X') V2) : WL p L e s m args below meth c cells slots Q D E r A 895 [(0, .ref 999996), (1, .ref 0), (2, .ref 89), (3, .ref 118), (4, .int P)] [] (SH ++ X) V := by
  have hc0 : cells ≤ 194196 := by omega
  have hs0 : slots ≤ 8513518 := by omega
  obtain ⟨v, V1, V2, e1, e2, hI2⟩ := st_bath hI hN (xs (P + 1).toNatClampNeg) (xs (P + 2).toNatClampNeg)
  exact lc_bath C hc0 hs0 i1 i2 e1 e2 (go cells slots r X V2 (by omega) (by omega) C hI2 (hJ.to ((gf (V' := V2) (fr_M_bath _ _ _ _ e2) rfl).trans (gf (V' := V1) (fr_X_bath _ _ _ _ e1) rfl))))
theorem cs_shares {p : Program} {L : Launch} {e : Env} {s : State} {m : MethodId} {args : Array Value} {below : List Frame} {meth : Method} {c : Code} {cells slots : Nat} {Q : State → Prop} {D : va_G} {E : Nat → ClassId} {r : Nat → Nat} {A : Nat → Prop} {n : Nat} {xs : Nat → Int32} (C : lw_C p L s m args meth c A r n xs) (hc : cells + 1 ≤ 194196) (hs : slots + 12000 ≤ 8513518) {P : Int32} {X : ai_S} {V : ai_V} {N : Nat} (hI : Inv N V) (hN : N < 512) (hJ : JX X V) (i1 : vp_in (P + 1) n) (i2 : vp_in (P + 2) n) (i3 : vp_in (P + 3) n) (i4 : vp_in (P + 4) n)
    (go : ∀ (k j : Nat) (r' : Nat → Nat) (X' : ai_S) (V2 : ai_V), k ≤ cells + 1 → j ≤ slots + 12000 → lw_C p L s m args meth c A r' n xs → Inv (N + 1) V2 → JX X' V2 → WL p L e s m args below meth c k j Q D E r' A 1610 [(0, .ref 999996), (1, .ref 0), (2, .ref 89), (3, .ref 118), (4, .int P)] [] (SH ++ X') V2) : WL p L e s m args below meth c cells slots Q D E r A 932 [(0, .ref 999996), (1, .ref 0), (2, .ref 89), (3, .ref 118), (4, .int P)] [] (SH ++ X) V := by
  have hc0 : cells ≤ 194196 := by omega
  have hs0 : slots ≤ 8513518 := by omega
  obtain ⟨v, V1, V2, e1, e2, hI2⟩ := st_shares hI hN 
  exact lc_shares C hc0 hs0  e1 e2 (go cells slots r X V2 (by omega) (by omega) C hI2 (hJ.to ((gf (V' := V2) (fr_M_shares _ _ e2) rfl).trans (gf (V' := V1) (fr_X_shares _ _ e1) rfl))))
theorem cs_fairdue {p : Program} {L : Launch} {e : Env} {s : State} {m : MethodId} {args : Array Value} {below : List Frame} {meth : Method} {c : Code} {cells slots : Nat} {Q : State → Prop} {D : va_G} {E : Nat → ClassId} {r : Nat → Nat} {A : Nat → Prop} {n : Nat} {xs : Nat → Int32} (C : lw_C p L s m args meth c A r n xs) (hc : cells + 1 ≤ 194196) (hs : slots + 12000 ≤ 8513518) {P : Int32} {X : ai_S} {V : ai_V} {N : Nat} (hI : Inv N V) (hN : N < 512) (hJ : JX X V) (i1 : vp_in (P + 1) n) (i2 : vp_in (P + 2) n) (i3 : vp_in (P + 3) n) (i4 : vp_in (P + 4) n)
    (go : ∀ (k j : Nat) (r' : Nat → Nat) (X' : ai_S) (V2 : ai_V), k ≤ cells + 1 → j ≤ slots + 12000 → lw_C p L s m args meth c A r' n xs → Inv (N + 1) V2 → JX X' V2 → WL p L e s m args below meth c k j Q D E r' A 1610 [(0, .ref 999996), (1, .ref 0), (2, .ref 89), (3, .ref 118), (4, .int P)] [] (SH ++ X') V2) : WL p L e s m args below meth c cells slots Q D E r A 945 [(0, .ref 999996), (1, .ref 0), (2, .ref 89), (3, .ref 118), (4, .int P)] [] (SH ++ X) V := by
  have hc0 : cells ≤ 194196 := by omega
  have hs0 : slots ≤ 8513518 := by omega
  obtain ⟨v, V1, V2, e1, e2, hI2⟩ := st_fairdue hI hN 
  exact lc_fairdue C hc0 hs0  e1 e2 (go cells slots r X V2 (by omega) (by omega) C hI2 (hJ.to ((gf (V' := V2) (fr_M_fairdue _ _ e2) rfl).trans (gf (V' := V1) (fr_X_fairdue _ _ e1) rfl))))
theorem cs_ahead {p : Program} {L : Launch} {e : Env} {s : State} {m : MethodId} {args : Array Value} {below : List Frame} {meth : Method} {c : Code} {cells slots : Nat} {Q : State → Prop} {D : va_G} {E : Nat → ClassId} {r : Nat → Nat} {A : Nat → Prop} {n : Nat} {xs : Nat → Int32} (C : lw_C p L s m args meth c A r n xs) (hc : cells + 1 ≤ 194196) (hs : slots + 12000 ≤ 8513518) {P : Int32} {X : ai_S} {V : ai_V} {N : Nat} (hI : Inv N V) (hN : N < 512) (hJ : JX X V) (i1 : vp_in (P + 1) n) (i2 : vp_in (P + 2) n) (i3 : vp_in (P + 3) n) (i4 : vp_in (P + 4) n)
    (go : ∀ (k j : Nat) (r' : Nat → Nat) (X' : ai_S) (V2 : ai_V), k ≤ cells + 1 → j ≤ slots + 12000 → lw_C p L s m args meth c A r' n xs → Inv (N + 1) V2 → JX X' V2 → WL p L e s m args below meth c k j Q D E r' A 1610 [(0, .ref 999996), (1, .ref 0), (2, .ref 89), (3, .ref 118), (4, .int P)] [] (SH ++ X') V2) : WL p L e s m args below meth c cells slots Q D E r A 958 [(0, .ref 999996), (1, .ref 0), (2, .ref 89), (3, .ref 118), (4, .int P)] [] (SH ++ X) V := by
  have hc0 : cells ≤ 194196 := by omega
  have hs0 : slots ≤ 8513518 := by omega
  obtain ⟨v, V2, e1, e2, hI2⟩ := st_ahead hI hN (xs (P + 1).toNatClampNeg)
  exact lc_ahead C hc0 hs0 i1 e1 e2 (go cells slots r X V2 (by omega) (by omega) C hI2 (hJ.to (gf (V' := V2) (fr_M_ahead _ _ _ e2) rfl)))
theorem cs_changed {p : Program} {L : Launch} {e : Env} {s : State} {m : MethodId} {args : Array Value} {below : List Frame} {meth : Method} {c : Code} {cells slots : Nat} {Q : State → Prop} {D : va_G} {E : Nat → ClassId} {r : Nat → Nat} {A : Nat → Prop} {n : Nat} {xs : Nat → Int32} (C : lw_C p L s m args meth c A r n xs) (hc : cells + 1 ≤ 194196) (hs : slots + 12000 ≤ 8513518) {P : Int32} {X : ai_S} {V : ai_V} {N : Nat} (hI : Inv N V) (hN : N < 512) (hJ : JX X V) (i1 : vp_in (P + 1) n) (i2 : vp_in (P + 2) n) (i3 : vp_in (P + 3) n) (i4 : vp_in (P + 4) n)
    (go : ∀ (k j : Nat) (r' : Nat → Nat) (X' : ai_S) (V2 : ai_V), k ≤ cells + 1 → j ≤ slots + 12000 → lw_C p L s m args meth c A r' n xs → Inv (N + 1) V2 → JX X' V2 → WL p L e s m args below meth c k j Q D E r' A 1610 [(0, .ref 999996), (1, .ref 0), (2, .ref 89), (3, .ref 118), (4, .int P)] [] (SH ++ X') V2) : WL p L e s m args below meth c cells slots Q D E r A 983 [(0, .ref 999996), (1, .ref 0), (2, .ref 89), (3, .ref 118), (4, .int P)] [] (SH ++ X) V := by
  have hc0 : cells ≤ 194196 := by omega
  have hs0 : slots ≤ 8513518 := by omega
  obtain ⟨v, V1, V2, e1, e2, hI2⟩ := st_changed hI hN (xs (P + 1).toNatClampNeg) (xs (P + 2).toNatClampNeg) (xs (P + 3).toNatClampNeg)
  exact lc_changed C hc0 hs0 i1 i2 i3 e1 e2 (go cells slots r X V2 (by omega) (by omega) C hI2 (hJ.to ((gf (V' := V2) (fr_M_changed _ _ _ _ _ e2) rfl).trans (gf (V' := V1) (fr_X_changed _ _ _ _ _ e1) rfl))))
theorem cs_lasts {p : Program} {L : Launch} {e : Env} {s : State} {m : MethodId} {args : Array Value} {below : List Frame} {meth : Method} {c : Code} {cells slots : Nat} {Q : State → Prop} {D : va_G} {E : Nat → ClassId} {r : Nat → Nat} {A : Nat → Prop} {n : Nat} {xs : Nat → Int32} (C : lw_C p L s m args meth c A r n xs) (hc : cells + 1 ≤ 194196) (hs : slots + 12000 ≤ 8513518) {P : Int32} {X : ai_S} {V : ai_V} {N : Nat} (hI : Inv N V) (hN : N < 512) (hJ : JX X V) (i1 : vp_in (P + 1) n) (i2 : vp_in (P + 2) n) (i3 : vp_in (P + 3) n) (i4 : vp_in (P + 4) n)
    (go : ∀ (k j : Nat) (r' : Nat → Nat) (X' : ai_S) (V2 : ai_V), k ≤ cells + 1 → j ≤ slots + 12000 → lw_C p L s m args meth c A r' n xs → Inv (N + 1) V2 → JX X' V2 → WL p L e s m args below meth c k j Q D E r' A 1610 [(0, .ref 999996), (1, .ref 0), (2, .ref 89), (3, .ref 118), (4, .int P)] [] (SH ++ X') V2) : WL p L e s m args below meth c cells slots Q D E r A 1032 [(0, .ref 999996), (1, .ref 0), (2, .ref 89), (3, .ref 118), (4, .int P)] [] (SH ++ X) V := by
  have hc0 : cells ≤ 194196 := by omega
  have hs0 : slots ≤ 8513518 := by omega
  obtain ⟨v, V1, V2, e1, e2, hI2⟩ := st_lasts hI hN 
  exact lc_lasts C hc0 hs0  e1 e2 (go cells slots r X V2 (by omega) (by omega) C hI2 (hJ.to ((gf (V' := V2) (fr_M_lasts _ _ e2) rfl).trans (gf (V' := V1) (fr_X_lasts _ _ e1) rfl))))
theorem cs_pairs {p : Program} {L : Launch} {e : Env} {s : State} {m : MethodId} {args : Array Value} {below : List Frame} {meth : Method} {c : Code} {cells slots : Nat} {Q : State → Prop} {D : va_G} {E : Nat → ClassId} {r : Nat → Nat} {A : Nat → Prop} {n : Nat} {xs : Nat → Int32} (C : lw_C p L s m args meth c A r n xs) (hc : cells + 1 ≤ 194196) (hs : slots + 12000 ≤ 8513518) {P : Int32} {X : ai_S} {V : ai_V} {N : Nat} (hI : Inv N V) (hN : N < 512) (hJ : JX X V) (i1 : vp_in (P + 1) n) (i2 : vp_in (P + 2) n) (i3 : vp_in (P + 3) n) (i4 : vp_in (P + 4) n)
    (go : ∀ (k j : Nat) (r' : Nat → Nat) (X' : ai_S) (V2 : ai_V), k ≤ cells + 1 → j ≤ slots + 12000 → lw_C p L s m args meth c A r' n xs → Inv (N + 1) V2 → JX X' V2 → WL p L e s m args below meth c k j Q D E r' A 1610 [(0, .ref 999996), (1, .ref 0), (2, .ref 89), (3, .ref 118), (4, .int P)] [] (SH ++ X') V2) : WL p L e s m args below meth c cells slots Q D E r A 1045 [(0, .ref 999996), (1, .ref 0), (2, .ref 89), (3, .ref 118), (4, .int P)] [] (SH ++ X) V := by
  have hc0 : cells ≤ 194196 := by omega
  have hs0 : slots ≤ 8513518 := by omega
  obtain ⟨v, V1, V2, e1, e2, hI2⟩ := st_pairs hI hN (xs (P + 1).toNatClampNeg)
  exact lc_pairs C hc0 hs0 i1 e1 e2 (go cells slots r X V2 (by omega) (by omega) C hI2 (hJ.to ((gf (V' := V2) (fr_M_pairs _ _ _ e2) rfl).trans (gf (V' := V1) (fr_X_pairs _ _ _ e1) rfl))))
theorem cs_enough {p : Program} {L : Launch} {e : Env} {s : State} {m : MethodId} {args : Array Value} {below : List Frame} {meth : Method} {c : Code} {cells slots : Nat} {Q : State → Prop} {D : va_G} {E : Nat → ClassId} {r : Nat → Nat} {A : Nat → Prop} {n : Nat} {xs : Nat → Int32} (C : lw_C p L s m args meth c A r n xs) (hc : cells + 1 ≤ 194196) (hs : slots + 12000 ≤ 8513518) {P : Int32} {X : ai_S} {V : ai_V} {N : Nat} (hI : Inv N V) (hN : N < 512) (hJ : JX X V) (i1 : vp_in (P + 1) n) (i2 : vp_in (P + 2) n) (i3 : vp_in (P + 3) n) (i4 : vp_in (P + 4) n)
    (go : ∀ (k j : Nat) (r' : Nat → Nat) (X' : ai_S) (V2 : ai_V), k ≤ cells + 1 → j ≤ slots + 12000 → lw_C p L s m args meth c A r' n xs → Inv (N + 1) V2 → JX X' V2 → WL p L e s m args below meth c k j Q D E r' A 1610 [(0, .ref 999996), (1, .ref 0), (2, .ref 89), (3, .ref 118), (4, .int P)] [] (SH ++ X') V2) : WL p L e s m args below meth c cells slots Q D E r A 1070 [(0, .ref 999996), (1, .ref 0), (2, .ref 89), (3, .ref 118), (4, .int P)] [] (SH ++ X) V := by
  have hc0 : cells ≤ 194196 := by omega
  have hs0 : slots ≤ 8513518 := by omega
  obtain ⟨v, V1, V2, e1, e2, hI2⟩ := st_enough hI hN (xs (P + 1).toNatClampNeg)
  exact lc_enough C hc0 hs0 i1 e1 e2 (go cells slots r X V2 (by omega) (by omega) C hI2 (hJ.to ((gf (V' := V2) (fr_M_enough _ _ _ e2) rfl).trans (gf (V' := V1) (fr_X_enough _ _ _ e1) rfl))))
theorem cs_step {p : Program} {L : Launch} {e : Env} {s : State} {m : MethodId} {args : Array Value} {below : List Frame} {meth : Method} {c : Code} {cells slots : Nat} {Q : State → Prop} {D : va_G} {E : Nat → ClassId} {r : Nat → Nat} {A : Nat → Prop} {n : Nat} {xs : Nat → Int32} (C : lw_C p L s m args meth c A r n xs) (hc : cells + 1 ≤ 194196) (hs : slots + 12000 ≤ 8513518) {P : Int32} {X : ai_S} {V : ai_V} {N : Nat} (hI : Inv N V) (hN : N < 512) (hJ : JX X V) (i1 : vp_in (P + 1) n) (i2 : vp_in (P + 2) n) (i3 : vp_in (P + 3) n) (i4 : vp_in (P + 4) n)
    (go : ∀ (k j : Nat) (r' : Nat → Nat) (X' : ai_S) (V2 : ai_V), k ≤ cells + 1 → j ≤ slots + 12000 → lw_C p L s m args meth c A r' n xs → Inv (N + 1) V2 → JX X' V2 → WL p L e s m args below meth c k j Q D E r' A 1610 [(0, .ref 999996), (1, .ref 0), (2, .ref 89), (3, .ref 118), (4, .int P)] [] (SH ++ X') V2) : WL p L e s m args below meth c cells slots Q D E r A 1095 [(0, .ref 999996), (1, .ref 0), (2, .ref 89), (3, .ref 118), (4, .int P)] [] (SH ++ X) V := by
  have hc0 : cells ≤ 194196 := by omega
  have hs0 : slots ≤ 8513518 := by omega
  obtain ⟨v, V1, V2, e1, e2, hI2⟩ := st_step hI hN (xs (P + 1).toNatClampNeg)
  exact lc_step C hc0 hs0 i1 e1 e2 (go cells slots r X V2 (by omega) (by omega) C hI2 (hJ.to ((gf (V' := V2) (fr_M_step _ _ _ e2) rfl).trans (gf (V' := V1) (fr_X_step _ _ _ e1) rfl))))
theorem cs_values {p : Program} {L : Launch} {e : Env} {s : State} {m : MethodId} {args : Array Value} {below : List Frame} {meth : Method} {c : Code} {cells slots : Nat} {Q : State → Prop} {D : va_G} {E : Nat → ClassId} {r : Nat → Nat} {A : Nat → Prop} {n : Nat} {xs : Nat → Int32} (C : lw_C p L s m args meth c A r n xs) (hc : cells + 1 ≤ 194196) (hs : slots + 12000 ≤ 8513518) {P : Int32} {X : ai_S} {V : ai_V} {N : Nat} (hI : Inv N V) (hN : N < 512) (hJ : JX X V) (i1 : vp_in (P + 1) n) (i2 : vp_in (P + 2) n) (i3 : vp_in (P + 3) n) (i4 : vp_in (P + 4) n)
    (go : ∀ (k j : Nat) (r' : Nat → Nat) (X' : ai_S) (V2 : ai_V), k ≤ cells + 1 → j ≤ slots + 12000 → lw_C p L s m args meth c A r' n xs → Inv (N + 1) V2 → JX X' V2 → WL p L e s m args below meth c k j Q D E r' A 1610 [(0, .ref 999996), (1, .ref 0), (2, .ref 89), (3, .ref 118), (4, .int P)] [] (SH ++ X') V2) : WL p L e s m args below meth c cells slots Q D E r A 1120 [(0, .ref 999996), (1, .ref 0), (2, .ref 89), (3, .ref 118), (4, .int P)] [] (SH ++ X) V := by
  have hc0 : cells ≤ 194196 := by omega
  have hs0 : slots ≤ 8513518 := by omega
  obtain ⟨v, V1, V2, e1, e2, hI2⟩ := st_values hI hN 
  exact lc_values C hc0 hs0  e1 e2 (go cells slots r X V2 (by omega) (by omega) C hI2 (hJ.to ((gf (V' := V2) (fr_M_values _ _ e2) rfl).trans (gf (V' := V1) (fr_X_values _ _ e1) rfl))))
theorem cs_allot {p : Program} {L : Launch} {e : Env} {s : State} {m : MethodId} {args : Array Value} {below : List Frame} {meth : Method} {c : Code} {cells slots : Nat} {Q : State → Prop} {D : va_G} {E : Nat → ClassId} {r : Nat → Nat} {A : Nat → Prop} {n : Nat} {xs : Nat → Int32} (C : lw_C p L s m args meth c A r n xs) (hc : cells + 1 ≤ 194196) (hs : slots + 12000 ≤ 8513518) {P : Int32} {X : ai_S} {V : ai_V} {N : Nat} (hI : Inv N V) (hN : N < 512) (hJ : JX X V) (i1 : vp_in (P + 1) n) (i2 : vp_in (P + 2) n) (i3 : vp_in (P + 3) n) (i4 : vp_in (P + 4) n)
    (go : ∀ (k j : Nat) (r' : Nat → Nat) (X' : ai_S) (V2 : ai_V), k ≤ cells + 1 → j ≤ slots + 12000 → lw_C p L s m args meth c A r' n xs → Inv (N + 1) V2 → JX X' V2 → WL p L e s m args below meth c k j Q D E r' A 1610 [(0, .ref 999996), (1, .ref 0), (2, .ref 89), (3, .ref 118), (4, .int P)] [] (SH ++ X') V2) : WL p L e s m args below meth c cells slots Q D E r A 1133 [(0, .ref 999996), (1, .ref 0), (2, .ref 89), (3, .ref 118), (4, .int P)] [] (SH ++ X) V := by
  have hc0 : cells ≤ 194196 := by omega
  have hs0 : slots ≤ 8513518 := by omega
  obtain ⟨v, V1, V2, e1, e2, hI2⟩ := st_allot hI hN 
  exact lc_allot C hc0 hs0  e1 e2 (go cells slots r X V2 (by omega) (by omega) C hI2 (hJ.to ((gf (V' := V2) (fr_M_allot _ _ e2) rfl).trans (gf (V' := V1) (fr_X_allot _ _ e1) rfl))))
theorem cs_rents {p : Program} {L : Launch} {e : Env} {s : State} {m : MethodId} {args : Array Value} {below : List Frame} {meth : Method} {c : Code} {cells slots : Nat} {Q : State → Prop} {D : va_G} {E : Nat → ClassId} {r : Nat → Nat} {A : Nat → Prop} {n : Nat} {xs : Nat → Int32} (C : lw_C p L s m args meth c A r n xs) (hc : cells + 1 ≤ 194196) (hs : slots + 12000 ≤ 8513518) {P : Int32} {X : ai_S} {V : ai_V} {N : Nat} (hI : Inv N V) (hN : N < 512) (hJ : JX X V) (i1 : vp_in (P + 1) n) (i2 : vp_in (P + 2) n) (i3 : vp_in (P + 3) n) (i4 : vp_in (P + 4) n)
    (go : ∀ (k j : Nat) (r' : Nat → Nat) (X' : ai_S) (V2 : ai_V), k ≤ cells + 1 → j ≤ slots + 12000 → lw_C p L s m args meth c A r' n xs → Inv (N + 1) V2 → JX X' V2 → WL p L e s m args below meth c k j Q D E r' A 1610 [(0, .ref 999996), (1, .ref 0), (2, .ref 89), (3, .ref 118), (4, .int P)] [] (SH ++ X') V2) : WL p L e s m args below meth c cells slots Q D E r A 1146 [(0, .ref 999996), (1, .ref 0), (2, .ref 89), (3, .ref 118), (4, .int P)] [] (SH ++ X) V := by
  have hc0 : cells ≤ 194196 := by omega
  have hs0 : slots ≤ 8513518 := by omega
  obtain ⟨v, V1, V2, e1, e2, hI2⟩ := st_rents hI hN (xs (P + 1).toNatClampNeg)
  exact lc_rents C hc0 hs0 i1 e1 e2 (go cells slots r X V2 (by omega) (by omega) C hI2 (hJ.to ((gf (V' := V2) (fr_M_rents _ _ _ e2) rfl).trans (gf (V' := V1) (fr_X_rents _ _ _ e1) rfl))))
theorem cs_rests {p : Program} {L : Launch} {e : Env} {s : State} {m : MethodId} {args : Array Value} {below : List Frame} {meth : Method} {c : Code} {cells slots : Nat} {Q : State → Prop} {D : va_G} {E : Nat → ClassId} {r : Nat → Nat} {A : Nat → Prop} {n : Nat} {xs : Nat → Int32} (C : lw_C p L s m args meth c A r n xs) (hc : cells + 1 ≤ 194196) (hs : slots + 12000 ≤ 8513518) {P : Int32} {X : ai_S} {V : ai_V} {N : Nat} (hI : Inv N V) (hN : N < 512) (hJ : JX X V) (i1 : vp_in (P + 1) n) (i2 : vp_in (P + 2) n) (i3 : vp_in (P + 3) n) (i4 : vp_in (P + 4) n)
    (go : ∀ (k j : Nat) (r' : Nat → Nat) (X' : ai_S) (V2 : ai_V), k ≤ cells + 1 → j ≤ slots + 12000 → lw_C p L s m args meth c A r' n xs → Inv (N + 1) V2 → JX X' V2 → WL p L e s m args below meth c k j Q D E r' A 1610 [(0, .ref 999996), (1, .ref 0), (2, .ref 89), (3, .ref 118), (4, .int P)] [] (SH ++ X') V2) : WL p L e s m args below meth c cells slots Q D E r A 1171 [(0, .ref 999996), (1, .ref 0), (2, .ref 89), (3, .ref 118), (4, .int P)] [] (SH ++ X) V := by
  have hc0 : cells ≤ 194196 := by omega
  have hs0 : slots ≤ 8513518 := by omega
  obtain ⟨v, V1, V2, e1, e2, hI2⟩ := st_rests hI hN (xs (P + 1).toNatClampNeg) (xs (P + 2).toNatClampNeg) (xs (P + 3).toNatClampNeg)
  exact lc_rests C hc0 hs0 i1 i2 i3 e1 e2 (go cells slots r X V2 (by omega) (by omega) C hI2 (hJ.to ((gf (V' := V2) (fr_M_rests _ _ _ _ _ e2) rfl).trans (gf (V' := V1) (fr_X_rests _ _ _ _ _ e1) rfl))))
theorem cs_peg {p : Program} {L : Launch} {e : Env} {s : State} {m : MethodId} {args : Array Value} {below : List Frame} {meth : Method} {c : Code} {cells slots : Nat} {Q : State → Prop} {D : va_G} {E : Nat → ClassId} {r : Nat → Nat} {A : Nat → Prop} {n : Nat} {xs : Nat → Int32} (C : lw_C p L s m args meth c A r n xs) (hc : cells + 1 ≤ 194196) (hs : slots + 12000 ≤ 8513518) {P : Int32} {X : ai_S} {V : ai_V} {N : Nat} (hI : Inv N V) (hN : N < 512) (hJ : JX X V) (i1 : vp_in (P + 1) n) (i2 : vp_in (P + 2) n) (i3 : vp_in (P + 3) n) (i4 : vp_in (P + 4) n)
    (go : ∀ (k j : Nat) (r' : Nat → Nat) (X' : ai_S) (V2 : ai_V), k ≤ cells + 1 → j ≤ slots + 12000 → lw_C p L s m args meth c A r' n xs → Inv (N + 1) V2 → JX X' V2 → WL p L e s m args below meth c k j Q D E r' A 1610 [(0, .ref 999996), (1, .ref 0), (2, .ref 89), (3, .ref 118), (4, .int P)] [] (SH ++ X') V2) : WL p L e s m args below meth c cells slots Q D E r A 1220 [(0, .ref 999996), (1, .ref 0), (2, .ref 89), (3, .ref 118), (4, .int P)] [] (SH ++ X) V := by
  have hc0 : cells ≤ 194196 := by omega
  have hs0 : slots ≤ 8513518 := by omega
  obtain ⟨v, V1, V2, e1, e2, hI2⟩ := st_peg hI hN (xs (P + 1).toNatClampNeg) (xs (P + 2).toNatClampNeg)
  exact lc_peg C hc0 hs0 i1 i2 e1 e2 (go cells slots r X V2 (by omega) (by omega) C hI2 (hJ.to ((gf (V' := V2) (fr_M_peg _ _ _ _ e2) rfl).trans (gf (V' := V1) (fr_X_peg _ _ _ _ e1) rfl))))
theorem cs_forget {p : Program} {L : Launch} {e : Env} {s : State} {m : MethodId} {args : Array Value} {below : List Frame} {meth : Method} {c : Code} {cells slots : Nat} {Q : State → Prop} {D : va_G} {E : Nat → ClassId} {r : Nat → Nat} {A : Nat → Prop} {n : Nat} {xs : Nat → Int32} (C : lw_C p L s m args meth c A r n xs) (hc : cells + 1 ≤ 194196) (hs : slots + 12000 ≤ 8513518) {P : Int32} {X : ai_S} {V : ai_V} {N : Nat} (hI : Inv N V) (hN : N < 512) (hJ : JX X V) (i1 : vp_in (P + 1) n) (i2 : vp_in (P + 2) n) (i3 : vp_in (P + 3) n) (i4 : vp_in (P + 4) n)
    (go : ∀ (k j : Nat) (r' : Nat → Nat) (X' : ai_S) (V2 : ai_V), k ≤ cells + 1 → j ≤ slots + 12000 → lw_C p L s m args meth c A r' n xs → Inv (N + 1) V2 → JX X' V2 → WL p L e s m args below meth c k j Q D E r' A 1610 [(0, .ref 999996), (1, .ref 0), (2, .ref 89), (3, .ref 118), (4, .int P)] [] (SH ++ X') V2) : WL p L e s m args below meth c cells slots Q D E r A 1257 [(0, .ref 999996), (1, .ref 0), (2, .ref 89), (3, .ref 118), (4, .int P)] [] (SH ++ X) V := by
  have hc0 : cells ≤ 194196 := by omega
  have hs0 : slots ≤ 8513518 := by omega
  obtain ⟨v, V1, V2, e1, e2, hI2⟩ := st_forget hI hN 
  exact lc_forget C hc0 hs0  e1 e2 (go cells slots r X V2 (by omega) (by omega) C hI2 (hJ.to ((gf (V' := V2) (fr_M_forget _ _ e2) rfl).trans (gf (V' := V1) (fr_X_forget _ _ e1) rfl))))
theorem cs_trod {p : Program} {L : Launch} {e : Env} {s : State} {m : MethodId} {args : Array Value} {below : List Frame} {meth : Method} {c : Code} {cells slots : Nat} {Q : State → Prop} {D : va_G} {E : Nat → ClassId} {r : Nat → Nat} {A : Nat → Prop} {n : Nat} {xs : Nat → Int32} (C : lw_C p L s m args meth c A r n xs) (hc : cells + 1 ≤ 194196) (hs : slots + 12000 ≤ 8513518) {P : Int32} {X : ai_S} {V : ai_V} {N : Nat} (hI : Inv N V) (hN : N < 512) (hJ : JX X V) (i1 : vp_in (P + 1) n) (i2 : vp_in (P + 2) n) (i3 : vp_in (P + 3) n) (i4 : vp_in (P + 4) n)
    (go : ∀ (k j : Nat) (r' : Nat → Nat) (X' : ai_S) (V2 : ai_V), k ≤ cells + 1 → j ≤ slots + 12000 → lw_C p L s m args meth c A r' n xs → Inv (N + 1) V2 → JX X' V2 → WL p L e s m args below meth c k j Q D E r' A 1610 [(0, .ref 999996), (1, .ref 0), (2, .ref 89), (3, .ref 118), (4, .int P)] [] (SH ++ X') V2) : WL p L e s m args below meth c cells slots Q D E r A 1270 [(0, .ref 999996), (1, .ref 0), (2, .ref 89), (3, .ref 118), (4, .int P)] [] (SH ++ X) V := by
  have hc0 : cells ≤ 194196 := by omega
  have hs0 : slots ≤ 8513518 := by omega
  obtain ⟨v, V1, V2, e1, e2, hI2⟩ := st_trod hI hN 
  exact lc_trod C hc0 hs0  e1 e2 (go cells slots r X V2 (by omega) (by omega) C hI2 (hJ.to ((gf (V' := V2) (fr_M_trod _ _ e2) rfl).trans (gf (V' := V1) (fr_X_trod _ _ e1) rfl))))
theorem cs_ways {p : Program} {L : Launch} {e : Env} {s : State} {m : MethodId} {args : Array Value} {below : List Frame} {meth : Method} {c : Code} {cells slots : Nat} {Q : State → Prop} {D : va_G} {E : Nat → ClassId} {r : Nat → Nat} {A : Nat → Prop} {n : Nat} {xs : Nat → Int32} (C : lw_C p L s m args meth c A r n xs) (hc : cells + 1 ≤ 194196) (hs : slots + 12000 ≤ 8513518) {P : Int32} {X : ai_S} {V : ai_V} {N : Nat} (hI : Inv N V) (hN : N < 512) (hJ : JX X V) (i1 : vp_in (P + 1) n) (i2 : vp_in (P + 2) n) (i3 : vp_in (P + 3) n) (i4 : vp_in (P + 4) n)
    (go : ∀ (k j : Nat) (r' : Nat → Nat) (X' : ai_S) (V2 : ai_V), k ≤ cells + 1 → j ≤ slots + 12000 → lw_C p L s m args meth c A r' n xs → Inv (N + 1) V2 → JX X' V2 → WL p L e s m args below meth c k j Q D E r' A 1610 [(0, .ref 999996), (1, .ref 0), (2, .ref 89), (3, .ref 118), (4, .int P)] [] (SH ++ X') V2) : WL p L e s m args below meth c cells slots Q D E r A 1283 [(0, .ref 999996), (1, .ref 0), (2, .ref 89), (3, .ref 118), (4, .int P)] [] (SH ++ X) V := by
  have hc0 : cells ≤ 194196 := by omega
  have hs0 : slots ≤ 8513518 := by omega
  obtain ⟨v, V1, V2, e1, e2, hI2⟩ := st_ways hI hN (xs (P + 1).toNatClampNeg)
  exact lc_ways C hc0 hs0 i1 e1 e2 (go cells slots r X V2 (by omega) (by omega) C hI2 (hJ.to ((gf (V' := V2) (fr_M_ways _ _ _ e2) rfl).trans (gf (V' := V1) (fr_X_ways _ _ _ e1) rfl))))
theorem cs_braked {p : Program} {L : Launch} {e : Env} {s : State} {m : MethodId} {args : Array Value} {below : List Frame} {meth : Method} {c : Code} {cells slots : Nat} {Q : State → Prop} {D : va_G} {E : Nat → ClassId} {r : Nat → Nat} {A : Nat → Prop} {n : Nat} {xs : Nat → Int32} (C : lw_C p L s m args meth c A r n xs) (hc : cells + 1 ≤ 194196) (hs : slots + 12000 ≤ 8513518) {P : Int32} {X : ai_S} {V : ai_V} {N : Nat} (hI : Inv N V) (hN : N < 512) (hJ : JX X V) (i1 : vp_in (P + 1) n) (i2 : vp_in (P + 2) n) (i3 : vp_in (P + 3) n) (i4 : vp_in (P + 4) n)
    (go : ∀ (k j : Nat) (r' : Nat → Nat) (X' : ai_S) (V2 : ai_V), k ≤ cells + 1 → j ≤ slots + 12000 → lw_C p L s m args meth c A r' n xs → Inv (N + 1) V2 → JX X' V2 → WL p L e s m args below meth c k j Q D E r' A 1610 [(0, .ref 999996), (1, .ref 0), (2, .ref 89), (3, .ref 118), (4, .int P)] [] (SH ++ X') V2) : WL p L e s m args below meth c cells slots Q D E r A 1308 [(0, .ref 999996), (1, .ref 0), (2, .ref 89), (3, .ref 118), (4, .int P)] [] (SH ++ X) V := by
  have hc0 : cells ≤ 194196 := by omega
  have hs0 : slots ≤ 8513518 := by omega
  obtain ⟨v, V1, V2, e1, e2, hI2⟩ := st_braked hI hN (xs (P + 1).toNatClampNeg) (xs (P + 2).toNatClampNeg)
  exact lc_braked C hc0 hs0 i1 i2 e1 e2 (go cells slots r X V2 (by omega) (by omega) C hI2 (hJ.to ((gf (V' := V2) (fr_M_braked _ _ _ _ e2) rfl).trans (gf (V' := V1) (fr_X_braked _ _ _ _ e1) rfl))))
theorem cs_owes {p : Program} {L : Launch} {e : Env} {s : State} {m : MethodId} {args : Array Value} {below : List Frame} {meth : Method} {c : Code} {cells slots : Nat} {Q : State → Prop} {D : va_G} {E : Nat → ClassId} {r : Nat → Nat} {A : Nat → Prop} {n : Nat} {xs : Nat → Int32} (C : lw_C p L s m args meth c A r n xs) (hc : cells + 1 ≤ 194196) (hs : slots + 12000 ≤ 8513518) {P : Int32} {X : ai_S} {V : ai_V} {N : Nat} (hI : Inv N V) (hN : N < 512) (hJ : JX X V) (i1 : vp_in (P + 1) n) (i2 : vp_in (P + 2) n) (i3 : vp_in (P + 3) n) (i4 : vp_in (P + 4) n)
    (go : ∀ (k j : Nat) (r' : Nat → Nat) (X' : ai_S) (V2 : ai_V), k ≤ cells + 1 → j ≤ slots + 12000 → lw_C p L s m args meth c A r' n xs → Inv (N + 1) V2 → JX X' V2 → WL p L e s m args below meth c k j Q D E r' A 1610 [(0, .ref 999996), (1, .ref 0), (2, .ref 89), (3, .ref 118), (4, .int P)] [] (SH ++ X') V2) : WL p L e s m args below meth c cells slots Q D E r A 1345 [(0, .ref 999996), (1, .ref 0), (2, .ref 89), (3, .ref 118), (4, .int P)] [] (SH ++ X) V := by
  have hc0 : cells ≤ 194196 := by omega
  have hs0 : slots ≤ 8513518 := by omega
  obtain ⟨v, V1, V2, e1, e2, hI2⟩ := st_owes hI hN (xs (P + 1).toNatClampNeg) (xs (P + 2).toNatClampNeg) (xs (P + 3).toNatClampNeg)
  exact lc_owes C hc0 hs0 i1 i2 i3 e1 e2 (go cells slots r X V2 (by omega) (by omega) C hI2 (hJ.to ((gf (V' := V2) (fr_M_owes _ _ _ _ _ e2) rfl).trans (gf (V' := V1) (fr_X_owes _ _ _ _ _ e1) rfl))))
theorem cs_fund {p : Program} {L : Launch} {e : Env} {s : State} {m : MethodId} {args : Array Value} {below : List Frame} {meth : Method} {c : Code} {cells slots : Nat} {Q : State → Prop} {D : va_G} {E : Nat → ClassId} {r : Nat → Nat} {A : Nat → Prop} {n : Nat} {xs : Nat → Int32} (C : lw_C p L s m args meth c A r n xs) (hc : cells + 1 ≤ 194196) (hs : slots + 12000 ≤ 8513518) {P : Int32} {X : ai_S} {V : ai_V} {N : Nat} (hI : Inv N V) (hN : N < 512) (hJ : JX X V) (i1 : vp_in (P + 1) n) (i2 : vp_in (P + 2) n) (i3 : vp_in (P + 3) n) (i4 : vp_in (P + 4) n)
    (go : ∀ (k j : Nat) (r' : Nat → Nat) (X' : ai_S) (V2 : ai_V), k ≤ cells + 1 → j ≤ slots + 12000 → lw_C p L s m args meth c A r' n xs → Inv (N + 1) V2 → JX X' V2 → WL p L e s m args below meth c k j Q D E r' A 1610 [(0, .ref 999996), (1, .ref 0), (2, .ref 89), (3, .ref 118), (4, .int P)] [] (SH ++ X') V2) : WL p L e s m args below meth c cells slots Q D E r A 1394 [(0, .ref 999996), (1, .ref 0), (2, .ref 89), (3, .ref 118), (4, .int P)] [] (SH ++ X) V := by
  have hc0 : cells ≤ 194196 := by omega
  have hs0 : slots ≤ 8513518 := by omega
  obtain ⟨v, V1, V2, e1, e2, hI2⟩ := st_fund hI hN (xs (P + 1).toNatClampNeg) (xs (P + 2).toNatClampNeg) (xs (P + 3).toNatClampNeg)
  exact lc_fund C hc0 hs0 i1 i2 i3 e1 e2 (go cells slots r X V2 (by omega) (by omega) C hI2 (hJ.to ((gf (V' := V2) (fr_M_fund _ _ _ _ _ e2) rfl).trans (gf (V' := V1) (fr_X_fund _ _ _ _ _ e1) rfl))))
theorem cs_years {p : Program} {L : Launch} {e : Env} {s : State} {m : MethodId} {args : Array Value} {below : List Frame} {meth : Method} {c : Code} {cells slots : Nat} {Q : State → Prop} {D : va_G} {E : Nat → ClassId} {r : Nat → Nat} {A : Nat → Prop} {n : Nat} {xs : Nat → Int32} (C : lw_C p L s m args meth c A r n xs) (hc : cells + 1 ≤ 194196) (hs : slots + 12000 ≤ 8513518) {P : Int32} {X : ai_S} {V : ai_V} {N : Nat} (hI : Inv N V) (hN : N < 512) (hJ : JX X V) (i1 : vp_in (P + 1) n) (i2 : vp_in (P + 2) n) (i3 : vp_in (P + 3) n) (i4 : vp_in (P + 4) n)
    (go : ∀ (k j : Nat) (r' : Nat → Nat) (X' : ai_S) (V2 : ai_V), k ≤ cells + 1 → j ≤ slots + 12000 → lw_C p L s m args meth c A r' n xs → Inv (N + 1) V2 → JX X' V2 → WL p L e s m args below meth c k j Q D E r' A 1610 [(0, .ref 999996), (1, .ref 0), (2, .ref 89), (3, .ref 118), (4, .int P)] [] (SH ++ X') V2) : WL p L e s m args below meth c cells slots Q D E r A 1443 [(0, .ref 999996), (1, .ref 0), (2, .ref 89), (3, .ref 118), (4, .int P)] [] (SH ++ X) V := by
  have hc0 : cells ≤ 194196 := by omega
  have hs0 : slots ≤ 8513518 := by omega
  obtain ⟨v, V1, V2, e1, e2, hI2⟩ := st_years hI hN (xs (P + 1).toNatClampNeg) (xs (P + 2).toNatClampNeg)
  exact lc_years C hc0 hs0 i1 i2 e1 e2 (go cells slots r X V2 (by omega) (by omega) C hI2 (hJ.to ((gf (V' := V2) (fr_M_years _ _ _ _ e2) rfl).trans (gf (V' := V1) (fr_X_years _ _ _ _ e1) rfl))))
theorem cs_keep {p : Program} {L : Launch} {e : Env} {s : State} {m : MethodId} {args : Array Value} {below : List Frame} {meth : Method} {c : Code} {cells slots : Nat} {Q : State → Prop} {D : va_G} {E : Nat → ClassId} {r : Nat → Nat} {A : Nat → Prop} {n : Nat} {xs : Nat → Int32} (C : lw_C p L s m args meth c A r n xs) (hc : cells + 1 ≤ 194196) (hs : slots + 12000 ≤ 8513518) {P : Int32} {X : ai_S} {V : ai_V} {N : Nat} (hI : Inv N V) (hN : N < 512) (hJ : JX X V) (i1 : vp_in (P + 1) n) (i2 : vp_in (P + 2) n) (i3 : vp_in (P + 3) n) (i4 : vp_in (P + 4) n)
    (go : ∀ (k j : Nat) (r' : Nat → Nat) (X' : ai_S) (V2 : ai_V), k ≤ cells + 1 → j ≤ slots + 12000 → lw_C p L s m args meth c A r' n xs → Inv (N + 1) V2 → JX X' V2 → WL p L e s m args below meth c k j Q D E r' A 1610 [(0, .ref 999996), (1, .ref 0), (2, .ref 89), (3, .ref 118), (4, .int P)] [] (SH ++ X') V2) : WL p L e s m args below meth c cells slots Q D E r A 1480 [(0, .ref 999996), (1, .ref 0), (2, .ref 89), (3, .ref 118), (4, .int P)] [] (SH ++ X) V := by
  have hc0 : cells ≤ 194196 := by omega
  have hs0 : slots ≤ 8513518 := by omega
  obtain ⟨v, V1, V2, e1, e2, hI2⟩ := st_keep hI hN (xs (P + 1).toNatClampNeg)
  exact lc_keep C hc0 hs0 i1 e1 e2 (go cells slots r X V2 (by omega) (by omega) C hI2 (hJ.to ((gf (V' := V2) (fr_M_keep _ _ _ e2) rfl).trans (gf (V' := V1) (fr_X_keep _ _ _ e1) rfl))))
theorem cs_again {p : Program} {L : Launch} {e : Env} {s : State} {m : MethodId} {args : Array Value} {below : List Frame} {meth : Method} {c : Code} {cells slots : Nat} {Q : State → Prop} {D : va_G} {E : Nat → ClassId} {r : Nat → Nat} {A : Nat → Prop} {n : Nat} {xs : Nat → Int32} (C : lw_C p L s m args meth c A r n xs) (hc : cells + 1 ≤ 194196) (hs : slots + 12000 ≤ 8513518) {P : Int32} {X : ai_S} {V : ai_V} {N : Nat} (hI : Inv N V) (hN : N < 512) (hJ : JX X V) (i1 : vp_in (P + 1) n) (i2 : vp_in (P + 2) n) (i3 : vp_in (P + 3) n) (i4 : vp_in (P + 4) n)
    (go : ∀ (k j : Nat) (r' : Nat → Nat) (X' : ai_S) (V2 : ai_V), k ≤ cells + 1 → j ≤ slots + 12000 → lw_C p L s m args meth c A r' n xs → Inv (N + 1) V2 → JX X' V2 → WL p L e s m args below meth c k j Q D E r' A 1610 [(0, .ref 999996), (1, .ref 0), (2, .ref 89), (3, .ref 118), (4, .int P)] [] (SH ++ X') V2) : WL p L e s m args below meth c cells slots Q D E r A 1505 [(0, .ref 999996), (1, .ref 0), (2, .ref 89), (3, .ref 118), (4, .int P)] [] (SH ++ X) V := by
  have hc0 : cells ≤ 194196 := by omega
  have hs0 : slots ≤ 8513518 := by omega
  obtain ⟨v, V1, V2, e1, e2, hI2⟩ := st_again hI hN (xs (P + 1).toNatClampNeg)
  exact lc_again C hc0 hs0 i1 e1 e2 (go cells slots r X V2 (by omega) (by omega) C hI2 (hJ.to ((gf (V' := V2) (fr_M_again _ _ _ e2) rfl).trans (gf (V' := V1) (fr_X_again _ _ _ e1) rfl))))
theorem cs_count {p : Program} {L : Launch} {e : Env} {s : State} {m : MethodId} {args : Array Value} {below : List Frame} {meth : Method} {c : Code} {cells slots : Nat} {Q : State → Prop} {D : va_G} {E : Nat → ClassId} {r : Nat → Nat} {A : Nat → Prop} {n : Nat} {xs : Nat → Int32} (C : lw_C p L s m args meth c A r n xs) (hc : cells + 1 ≤ 194196) (hs : slots + 12000 ≤ 8513518) {P : Int32} {X : ai_S} {V : ai_V} {N : Nat} (hI : Inv N V) (hN : N < 512) (hJ : JX X V) (i1 : vp_in (P + 1) n) (i2 : vp_in (P + 2) n) (i3 : vp_in (P + 3) n) (i4 : vp_in (P + 4) n)
    (go : ∀ (k j : Nat) (r' : Nat → Nat) (X' : ai_S) (V2 : ai_V), k ≤ cells + 1 → j ≤ slots + 12000 → lw_C p L s m args meth c A r' n xs → Inv (N + 1) V2 → JX X' V2 → WL p L e s m args below meth c k j Q D E r' A 1610 [(0, .ref 999996), (1, .ref 0), (2, .ref 89), (3, .ref 118), (4, .int P)] [] (SH ++ X') V2) : WL p L e s m args below meth c cells slots Q D E r A 1530 [(0, .ref 999996), (1, .ref 0), (2, .ref 89), (3, .ref 118), (4, .int P)] [] (SH ++ X) V := by
  have hc0 : cells ≤ 194196 := by omega
  have hs0 : slots ≤ 8513518 := by omega
  obtain ⟨v, V2, e1, e2, hI2⟩ := st_count hI hN (xs (P + 1).toNatClampNeg)
  exact lc_count C hc0 hs0 i1 e1 e2 (go cells slots r X V2 (by omega) (by omega) C hI2 (hJ.to (gf (V' := V2) (fr_M_count _ _ _ e2) rfl)))
theorem cs_row {p : Program} {L : Launch} {e : Env} {s : State} {m : MethodId} {args : Array Value} {below : List Frame} {meth : Method} {c : Code} {cells slots : Nat} {Q : State → Prop} {D : va_G} {E : Nat → ClassId} {r : Nat → Nat} {A : Nat → Prop} {n : Nat} {xs : Nat → Int32} (C : lw_C p L s m args meth c A r n xs) (hc : cells + 1 ≤ 194196) (hs : slots + 12000 ≤ 8513518) {P : Int32} {X : ai_S} {V : ai_V} {N : Nat} (hI : Inv N V) (hN : N < 512) (hJ : JX X V) (i1 : vp_in (P + 1) n) (i2 : vp_in (P + 2) n) (i3 : vp_in (P + 3) n) (i4 : vp_in (P + 4) n)
    (go : ∀ (k j : Nat) (r' : Nat → Nat) (X' : ai_S) (V2 : ai_V), k ≤ cells + 1 → j ≤ slots + 12000 → lw_C p L s m args meth c A r' n xs → Inv (N + 1) V2 → JX X' V2 → WL p L e s m args below meth c k j Q D E r' A 1610 [(0, .ref 999996), (1, .ref 0), (2, .ref 89), (3, .ref 118), (4, .int P)] [] (SH ++ X') V2) : WL p L e s m args below meth c cells slots Q D E r A 1555 [(0, .ref 999996), (1, .ref 0), (2, .ref 89), (3, .ref 118), (4, .int P)] [] (SH ++ X) V := by
  have hc0 : cells ≤ 194196 := by omega
  have hs0 : slots ≤ 8513518 := by omega
  have hs6 : slots + 6 ≤ 8513518 := by omega
  have hl0 := C.2.2.2.2.2.2.2
  rcases st_row hI hN (xs (P + 1).toNatClampNeg) with ⟨v, V2, hx, hm, ht, hg, hI2⟩ | ⟨hw, u, V2, hm, ht, hI2⟩
  · exact lc_row_r C hc0 hs0 i1 hx hm ht hg (go cells slots r X V2 (by omega) (by omega) C hI2 (hJ.to (gf (V := sl V 118 0 v) (V' := V2) (fr_M_row _ _ _ hm) rfl)))
  · have hway : nx_way L 258 [.ref 0, .int (xs (P + 1).toNatClampNeg)] (SH ++ X) V := by
      rcases hw with h | ⟨h, h2⟩
      · exact nx_row0 hl0 h
      · exact nx_row1 hl0 h h2
    exact lc_row_x C hc hs6 i1 hway hm ht (go (cells + 1) (slots + 6) r X V2 (by omega) (by omega) C hI2 (hJ.to (gf (V' := V2) (fr_M_row _ _ _ hm) rfl)))
