/-! THE CLAIM OUT OF ONE WALK OF THE LAW'S BODY. Your part is whole_start (and what it stands on); all else here is the same for every law, but numbers. -/
def R_law : String := "RentByTheWheelLaw"
def lw_P (b : Addr) (xs : List Int32) (args : Array Value) (s : State) : Prop := args = #[.ref b] ∧ s.IntsAt b xs ∧ xs.length ≤ 2560 ∧ (Jvm.Cond.and given_1 narrow_1).before args s = true
def lw_Q (_ : Array Value) (s : State) (o : Outcome) (t : State) : Prop := o = .returned (some (.int 1)) ∧ Framed s o t [] 194196 8513518
def lw_Z (below : List Frame) (a : Array Value) (s : State) : State → Prop := fun t => ∃ o, t.status = .running ∧ Ended t below o ∧ lw_Q a s o t
/-- the law's own end, with 1 on the stack, nothing written that was there before, its room as the claim has it -/
theorem lw_ret {p : Program} {l : Launch} {e : Env} {s : State} {m : MethodId} {below : List Frame} {meth : Method} {c : Code} {b : Nat} (hx : p.tables.exec = Jvm.exec) (hb : c.code = code) (hr : meth.sig.returnType = ret) (hlocks : meth.locks = false) {pc : Nat} {H : Heap} {ls : Array Slot} (hdg : decode code pc = .ok (.ireturn, 1)) : W p l e room_1 s m #[Value.ref b] below meth c H [] 194196 8513518 (lw_Z below #[Value.ref b] s) (F0 m pc ls [.int 1]) := by
  intro T hT X
  obtain ⟨fs, hret, hrun, hended, hW, hframe⟩ := X.leave (v := some (.int 1)) (hlocks := hlocks) (fun h => by rw [hr] at h; cases h)
  have hmeth' : T.vm.method? m = some meth := X.method'
  refine ⟨T.setFrames fs, ?_, .returned (some (.int 1)), hrun, hended, rfl, ⟨_, rfl⟩, hW, hframe⟩
  jvm_step X.here [X.here.top, hx, hb, hdg, hmeth', hr, ret, narrow_b1]
  (try refine ⟨rfl, ?_⟩); (try refine ⟨rfl, ?_⟩)
  first | (intro acts; rw [hret _ acts rfl rfl rfl]) | rw [hret _ _ rfl rfl rfl]
  exact Steps.refl _
/-- what holds at the law's entry: the machine, the code, the tables' words (any of lw_tbl by 'hts w (by decide +kernel)'), the script of L ints xs at the cell b, what the Statement gives of the start (any of its parts by flat_of_before) -/
def lw_At (p : Program) (s : State) (m : MethodId) (meth : Method) (c : Code) (b L : Nat) (xs : Nat → Int32) : Prop :=
  p.tables.exec = Jvm.exec ∧ c.code = code ∧ meth.sig.returnType = ret ∧ c.maxLocals = 8 ∧ s.vm.findClass R_law = some m.cls ∧ (∀ w ∈ lw_tbl, w.before #[Value.ref b] s = true) ∧ va_X b L xs s s.heap ∧ b < s.heap.size ∧ meth.locks = false ∧ (Jvm.Cond.and given_1 narrow_1).before #[Value.ref b] s = true
theorem lw_lt {n N : Nat} (hn : n ≤ 2560) (hN : N ≤ 512) (h : n < 5 * N + 5) : Int32.ofNat n - 5 < on (5 * N) := by
  have e1 := on_ti (show n < 2147483648 by omega)
  have e2 := on_ti (show 5 * N < 2147483648 by omega)
  have e5 : (5 : Int32).toInt = 5 := rfl
  show on n - 5 < on (5 * N)
  rw [ti_lt, ti_sub (by omega) (by omega), e1, e2, e5]; omega
theorem lw_ge {n N : Nat} (hn : n ≤ 2560) (hN : N ≤ 512) (h : 5 * N + 5 ≤ n) : ¬ Int32.ofNat n - 5 < on (5 * N) := by
  have e1 := on_ti (show n < 2147483648 by omega)
  have e2 := on_ti (show 5 * N < 2147483648 by omega)
  have e5 : (5 : Int32).toInt = 5 := rfl
  show ¬ on n - 5 < on (5 * N)
  rw [ti_lt, ti_sub (by omega) (by omega), e1, e2, e5]; omega
theorem Inv.up {N : Nat} {V : ai_V} (hI : Inv N V) : Inv (N + 1) V := by
  obtain ⟨h, f, z, rm, h1, h2, h3, h4, h5, h6, h7, h8, h9, h10⟩ := hI
  have F : Fr ([], []) V V := Fr.rf
  exact ⟨h, f, z, rm, h1, h2, h3, h4.sm (Sm.of F rfl) (by omega), h5, h6.sm (Sm.of F rfl) (by omega), h7.sm (Sm.of F rfl) (by omega), h8, h9, h10⟩
set_option maxRecDepth 30000 in
theorem lw_out {p : Program} {L : Launch} {e : Env} {s : State} {m : MethodId} {below : List Frame} {meth : Method} {c : Code} {D : va_G} {E : Nat → ClassId} {A : Nat → Prop} {n b cells slots : Nat} {xs : Nat → Int32} {r : Nat → Nat} {l : ai_L} {S : ai_S} {V : ai_V} (hx : p.tables.exec = Jvm.exec) (hb : c.code = code) (hr : meth.sig.returnType = ret) (hlk : meth.locks = false) (hA : ∀ q, A q → s.heap.size ≤ q) (C : lw_C p L s m #[Value.ref b] meth c A r n xs) (hc : cells ≤ 194196) (hs : slots ≤ 8513518) : WL p L e s m #[Value.ref b] below meth c cells slots (lw_Z below #[Value.ref b] s) D E r A 1616 l [] S V := by
  refine wl_go C hc hs 1 (pc' := 1617) (l' := l) (st' := [.int 1]) (S' := S) (V' := V) rfl ?_
  intro H locs ls hW hl
  refine va_forget (fun q hq => hA _ (hW.2.2.2.2.2.2 q hq)) ?_
  exact W.widen (k := 194196) (n := 8513518) hc hs (lw_ret hx hb hr hlk (by decide +kernel))
set_option maxRecDepth 30000 in
theorem lw_loop {p : Program} {L : Launch} {e : Env} {s : State} {m : MethodId} {below : List Frame} {meth : Method} {c : Code} {D : va_G} {E : Nat → ClassId} {A : Nat → Prop} {n b : Nat} {xs : Nat → Int32} (hx : p.tables.exec = Jvm.exec) (hb : c.code = code) (hr : meth.sig.returnType = ret) (hlk : meth.locks = false) (hn : n ≤ 2560) (hA : ∀ q, A q → s.heap.size ≤ q) :
    ∀ (k N cells slots : Nat) (r : Nat → Nat) (X : ai_S) (V : ai_V), N + k = 512 → cells ≤ 1000 + N → slots ≤ 100000 + 12000 * N → lw_C p L s m #[Value.ref b] meth c A r n xs → Inv N V → JX X V →
      WL p L e s m #[Value.ref b] below meth c cells slots (lw_Z below #[Value.ref b] s) D E r A 23 [(0, .ref 999996), (1, .ref 0), (2, .ref 89), (3, .ref 118), (4, .int (on (5 * N)))] [] (SH ++ X) V := by
  intro k
  induction k with
  | zero =>
    intro N cells slots r X V hN hc hs C hI hJ
    have hc0 : cells ≤ 194196 := by omega
    have hs0 : slots ≤ 8513518 := by omega
    refine wl_go C hc0 hs0 2 (pc' := 26) (l' := [(0, .ref 999996), (1, .ref 0), (2, .ref 89), (3, .ref 118), (4, .int (on (5 * N)))]) (st' := [.ref 999996, .int (on (5 * N))]) (S' := SH ++ X) (V' := V) rfl ?_
    refine wl_len C (by decide +kernel) ?_
    refine wl_go C hc0 hs0 2 (pc' := 29) (l' := [(0, .ref 999996), (1, .ref 0), (2, .ref 89), (3, .ref 118), (4, .int (on (5 * N)))]) (st' := [.int (Int32.ofNat n - 5), .int (on (5 * N))]) (S' := SH ++ X) (V' := V) rfl ?_
    refine wl_brT (q := Int32.ofNat n - 5 < on (5 * N)) C rfl (by decide) rfl (lw_lt hn (by omega) (by omega)) ?_
    exact lw_out hx hb hr hlk hA C hc0 hs0
  | succ k ih =>
    intro N cells slots r X V hN hc hs C hI hJ
    have hc0 : cells ≤ 194196 := by omega
    have hs0 : slots ≤ 8513518 := by omega
    refine wl_go C hc0 hs0 2 (pc' := 26) (l' := [(0, .ref 999996), (1, .ref 0), (2, .ref 89), (3, .ref 118), (4, .int (on (5 * N)))]) (st' := [.ref 999996, .int (on (5 * N))]) (S' := SH ++ X) (V' := V) rfl ?_
    refine wl_len C (by decide +kernel) ?_
    refine wl_go C hc0 hs0 2 (pc' := 29) (l' := [(0, .ref 999996), (1, .ref 0), (2, .ref 89), (3, .ref 118), (4, .int (on (5 * N)))]) (st' := [.int (Int32.ofNat n - 5), .int (on (5 * N))]) (S' := SH ++ X) (V' := V) rfl ?_
    by_cases e5 : n < 5 * N + 5
    · refine wl_brT (q := Int32.ofNat n - 5 < on (5 * N)) C rfl (by decide) rfl (lw_lt hn (by omega) e5) ?_
      exact lw_out hx hb hr hlk hA C hc0 hs0
    · refine wl_brF (q := Int32.ofNat n - 5 < on (5 * N)) C rfl (by decide) rfl (lw_ge hn (by omega) (by omega)) ?_
      have vi : ∀ j, j < n → vp_in (on j) n := fun j hj => by
        show ¬ (on j < 0 ∨ n ≤ (on j).toNatClampNeg)
        rw [on_n0 (by omega), on_nn (by omega)]
        rintro (h | h)
        · exact h
        · omega
      refine wl_go C hc0 hs0 2 (pc' := 35) (l' := [(0, .ref 999996), (1, .ref 0), (2, .ref 89), (3, .ref 118), (4, .int (on (5 * N)))]) (st' := [.int (on (5 * N)), .ref 999996]) (S' := SH ++ X) (V' := V) rfl ?_
      refine wl_ld C (vi _ (by omega)) (by decide +kernel) ?_
      refine wl_go C hc0 hs0 2 (pc' := 39) (l' := [(0, .ref 999996), (1, .ref 0), (2, .ref 89), (3, .ref 118), (4, .int (on (5 * N)))]) (st' := [.int (xs (on (5 * N)).toNatClampNeg &&& 63)]) (S' := SH ++ X) (V' := V) rfl ?_
      refine wl_sw (t := ai_sel lw_sw 1610 (xs (on (5 * N)).toNatClampNeg &&& 63)) C rfl (by decide) rfl rfl ?_
      have nxt : ∀ (k' j' : Nat) (r' : Nat → Nat) (X' : ai_S) (V2 : ai_V), k' ≤ cells + 1 → j' ≤ slots + 12000 → lw_C p L s m #[Value.ref b] meth c A r' n xs → Inv (N + 1) V2 → JX X' V2 → WL p L e s m #[Value.ref b] below meth c k' j' (lw_Z below #[Value.ref b] s) D E r' A 1610 [(0, .ref 999996), (1, .ref 0), (2, .ref 89), (3, .ref 118), (4, .int (on (5 * N)))] [] (SH ++ X') V2 := by
        intro k' j' r' X' V2 hk hj C' hI2 hJ2
        have e1 : on (5 * N) + 5 = on (5 * (N + 1)) := by rw [show (5 : Int32) = on 5 from rfl, on_add]; congr 1
        refine wl_go C' (by omega) (by omega) 2 (pc' := 23) (l' := [(4, .int (on (5 * N) + 5)), (0, .ref 999996), (1, .ref 0), (2, .ref 89), (3, .ref 118)]) (st' := []) (S' := SH ++ X') (V' := V2) rfl ?_
        refine wl_sub [1, 2, 3, 4, 0] (lc := [(0, .ref 999996), (1, .ref 0), (2, .ref 89), (3, .ref 118), (4, .int (on (5 * N) + 5))]) rfl ?_
        rw [e1]
        exact ih (N + 1) k' j' r' X' V2 (by omega) (by omega) (by omega) C' hI2 hJ2
      refine cs_all C (by omega) (by omega) hI (by omega) hJ (by rw [one_on, on_add]; exact vi _ (by omega)) (by rw [show (2 : Int32) = on 2 from rfl, on_add]; exact vi _ (by omega)) (by rw [show (3 : Int32) = on 3 from rfl, on_add]; exact vi _ (by omega)) (by rw [show (4 : Int32) = on 4 from rfl, on_add]; exact vi _ (by omega)) nxt _ (fun _ => nxt cells slots r X V (by omega) (by omega) C (hI.up) hJ)
