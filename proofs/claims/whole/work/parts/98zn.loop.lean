/-! ===== the law: its loop ===== -/
theorem cs_all {p : Program} {L : Launch} {e : Env} {s : State} {m : MethodId} {args : Array Value} {below : List Frame} {meth : Method} {c : Code} {cells slots : Nat} {Q : State → Prop} {D : va_G} {E : Nat → ClassId} {r : Nat → Nat} {A : Nat → Prop} {n : Nat} {xs : Nat → Int32} (C : lw_C p L s m args meth c A r n xs) (hc : cells + 1 ≤ 194196) (hs : slots + 12000 ≤ 8513518) {P : Int32} {X : ai_S} {V : ai_V} {N : Nat} (hI : Inv N V) (hN : N < 512) (hJ : JX X V) (i1 : vp_in (P + 1) n) (i2 : vp_in (P + 2) n) (i3 : vp_in (P + 3) n) (i4 : vp_in (P + 4) n)
    (go : ∀ (k j : Nat) (r' : Nat → Nat) (X' : ai_S) (V2 : ai_V), k ≤ cells + 1 → j ≤ slots + 12000 → lw_C p L s m args meth c A r' n xs → Inv (N + 1) V2 → JX X' V2 → WL p L e s m args below meth c k j Q D E r' A 1610 [(0, .ref 999996), (1, .ref 0), (2, .ref 89), (3, .ref 118), (4, .int P)] [] (SH ++ X') V2) (y : Int32) (hd : ai_sel lw_sw 1610 y = 1610 → WL p L e s m args below meth c cells slots Q D E r A 1610 [(0, .ref 999996), (1, .ref 0), (2, .ref 89), (3, .ref 118), (4, .int P)] [] (SH ++ X) V) : WL p L e s m args below meth c cells slots Q D E r A (ai_sel lw_sw 1610 y) [(0, .ref 999996), (1, .ref 0), (2, .ref 89), (3, .ref 118), (4, .int P)] [] (SH ++ X) V := by
  rcases sel_or lw_sw 1610 y with h | ⟨q, hq, e⟩
  · rw [h]; exact hd h
  · simp only [lw_sw, List.mem_cons, List.not_mem_nil, or_false] at hq
    rcases hq with rfl | rfl | rfl | rfl | rfl | rfl | rfl | rfl | rfl | rfl | rfl | rfl | rfl | rfl | rfl | rfl | rfl | rfl | rfl | rfl | rfl | rfl | rfl | rfl | rfl | rfl | rfl | rfl | rfl | rfl | rfl | rfl | rfl | rfl | rfl | rfl | rfl | rfl | rfl | rfl | rfl | rfl | rfl | rfl | rfl | rfl
    · subst e
      exact cs_sign C hc hs hI hN hJ i1 i2 i3 i4 go
    · subst e
      exact cs_end C hc hs hI hN hJ i1 i2 i3 i4 go
    · subst e
      exact cs_house C hc hs hI hN hJ i1 i2 i3 i4 go
    · subst e
      exact cs_rule C hc hs hI hN hJ i1 i2 i3 i4 go
    · subst e
      exact cs_lodger C hc hs hI hN hJ i1 i2 i3 i4 go
    · subst e
      exact cs_debt C hc hs hI hN hJ i1 i2 i3 i4 go
    · subst e
      exact cs_lifts C hc hs hI hN hJ i1 i2 i3 i4 go
    · subst e
      exact cs_set C hc hs hI hN hJ i1 i2 i3 i4 go
    · subst e
      exact cs_brake C hc hs hI hN hJ i1 i2 i3 i4 go
    · subst e
      exact cs_sheet C hc hs hI hN hJ i1 i2 i3 i4 go
    · subst e
      exact cs_quarter C hc hs hI hN hJ i1 i2 i3 i4 go
    · subst e
      exact cs_day C hc hs hI hN hJ i1 i2 i3 i4 go
    · subst e
      exact cs_look C hc hs hI hN hJ i1 i2 i3 i4 go
    · subst e
      exact cs_undo C hc hs hI hN hJ i1 i2 i3 i4 go
    · subst e
      exact cs_fewest C hc hs hI hN hJ i1 i2 i3 i4 go
    · subst e
      exact cs_driest C hc hs hI hN hJ i1 i2 i3 i4 go
    · subst e
      exact cs_pays C hc hs hI hN hJ i1 i2 i3 i4 go
    · subst e
      exact cs_strongest C hc hs hI hN hJ i1 i2 i3 i4 go
    · subst e
      exact cs_roomy C hc hs hI hN hJ i1 i2 i3 i4 go
    · subst e
      exact cs_even C hc hs hI hN hJ i1 i2 i3 i4 go
    · subst e
      exact cs_thirst C hc hs hI hN hJ i1 i2 i3 i4 go
    · subst e
      exact cs_bath C hc hs hI hN hJ i1 i2 i3 i4 go
    · subst e
      exact cs_shares C hc hs hI hN hJ i1 i2 i3 i4 go
    · subst e
      exact cs_fairdue C hc hs hI hN hJ i1 i2 i3 i4 go
    · subst e
      exact cs_ahead C hc hs hI hN hJ i1 i2 i3 i4 go
    · subst e
      exact cs_changed C hc hs hI hN hJ i1 i2 i3 i4 go
    · subst e
      exact cs_lasts C hc hs hI hN hJ i1 i2 i3 i4 go
    · subst e
      exact cs_pairs C hc hs hI hN hJ i1 i2 i3 i4 go
    · subst e
      exact cs_enough C hc hs hI hN hJ i1 i2 i3 i4 go
    · subst e
      exact cs_step C hc hs hI hN hJ i1 i2 i3 i4 go
    · subst e
      exact cs_values C hc hs hI hN hJ i1 i2 i3 i4 go
    · subst e
      exact cs_allot C hc hs hI hN hJ i1 i2 i3 i4 go
    · subst e
      exact cs_rents C hc hs hI hN hJ i1 i2 i3 i4 go
    · subst e
      exact cs_rests C hc hs hI hN hJ i1 i2 i3 i4 go
    · subst e
      exact cs_peg C hc hs hI hN hJ i1 i2 i3 i4 go
    · subst e
      exact cs_forget C hc hs hI hN hJ i1 i2 i3 i4 go
    · subst e
      exact cs_trod C hc hs hI hN hJ i1 i2 i3 i4 go
    · subst e
      exact cs_ways C hc hs hI hN hJ i1 i2 i3 i4 go
    · subst e
      exact cs_braked C hc hs hI hN hJ i1 i2 i3 i4 go
    · subst e
      exact cs_owes C hc hs hI hN hJ i1 i2 i3 i4 go
    · subst e
      exact cs_fund C hc hs hI hN hJ i1 i2 i3 i4 go
    · subst e
      exact cs_years C hc hs hI hN hJ i1 i2 i3 i4 go
    · subst e
      exact cs_keep C hc hs hI hN hJ i1 i2 i3 i4 go
    · subst e
      exact cs_again C hc hs hI hN hJ i1 i2 i3 i4 go
    · subst e
      exact cs_count C hc hs hI hN hJ i1 i2 i3 i4 go
    · subst e
      exact cs_row C hc hs hI hN hJ i1 i2 i3 i4 go
