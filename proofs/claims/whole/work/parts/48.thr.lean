/-! ===== the class's three methods that throw, and the law's helpers that catch ===== -/
def nx_d (C : String) : Cond := .declares (Bundle.initS C)
/-- what a throw wants beside the world, seen from a place that nothing of it writes -/
def nx_Z (A : Nat → Prop) (U : State) : Prop :=
  vx_Zq Bundle.tN "UNASSIGNED_STACK" Bundle.steD A U U.heap ∧ vx_Zq Bundle.tN "SUPPRESSED_SENTINEL" Bundle.listD A U U.heap ∧
  ((∃ sa, vk_R "RentByTheWheel" 144 "no such lodger" sa U) ∧ (∃ sa, vk_R "RentByTheWheel" 174 "nothing such is told of a lodger" sa U) ∧ (∃ sa, vk_R "RentByTheWheel" 445 "no such number of the row" sa U)) ∧
  va_Nw (nx_d nxR) U ∧ va_Nw (nx_d "java/lang/Exception") U ∧ va_Nw (nx_d Bundle.tN) U ∧ va_Nw (.castable nxN nxN) U
theorem nx_Z.move {A A' : Nat → Prop} {s U : State} (h : nx_Z A s) (hA : ∀ q, A' q → A q) (hq : ∀ q, q < s.heap.size → ¬ A q → U.heap[q]? = s.heap[q]?) (hw : s.WarmedH U.vm) : nx_Z A' U := by
  obtain ⟨h1, h2, ⟨⟨a1, m1⟩, ⟨a2, m2⟩, ⟨a3, m3⟩⟩, n1, n2, n3, n4⟩ := h
  exact ⟨((h1.moved hw.alike).kept hq).narrow hA, ((h2.moved hw.alike).kept hq).narrow hA, ⟨⟨a1, m1.warm hw⟩, ⟨a2, m2.warm hw⟩, ⟨a3, m3.warm hw⟩⟩, va_Nw.warmD hw n1, va_Nw.warmD hw n2, va_Nw.warmD hw n3, va_Nw.warmC hw n4⟩
theorem nx_Z.calling {A : Nat → Prop} {U : State} {g : JFrame} {mk : MethodId} {a : Array Value} (h : nx_Z A U) : nx_Z A (U.calling g mk a) := by
  obtain ⟨h1, h2, ⟨⟨a1, m1⟩, ⟨a2, m2⟩, ⟨a3, m3⟩⟩, n1, n2, n3, n4⟩ := h
  exact ⟨h1.moved (u := U) (U := U.calling g mk a) (Vm.Alike.refl U.vm), h2.moved (u := U) (U := U.calling g mk a) (Vm.Alike.refl U.vm),
    ⟨⟨a1, vk_R.same (u := U) (U := U.calling g mk a) rfl m1⟩, ⟨a2, vk_R.same (u := U) (U := U.calling g mk a) rfl m2⟩, ⟨a3, vk_R.same (u := U) (U := U.calling g mk a) rfl m3⟩⟩,
    va_Nw.same (u := U) (U := U.calling g mk a) rfl rfl n1, va_Nw.same (u := U) (U := U.calling g mk a) rfl rfl n2, va_Nw.same (u := U) (U := U.calling g mk a) rfl rfl n3, va_Nw.same (u := U) (U := U.calling g mk a) rfl rfl n4⟩
def nx_bad : List Cond := [nx_d nxR, nx_d "java/lang/Exception", nx_d Bundle.tN, .castable nxN nxN]
theorem nx_good_in : ((nx_at "RentByTheWheel" 146).filter goodWord).all (fun w => decide (w ∈ lw_tbl)) = true := by decide +kernel
theorem nx_bad_in : ((nx_at "RentByTheWheel" 146).filter (fun w => !goodWord w)).all (fun w => decide (w ∈ nx_bad)) = true := by decide +kernel
theorem nx_ots : (Cond.classLink "RentByTheWheel" 142 nxN :: Cond.initialized nxN :: nx_at "RentByTheWheel" 146).all vx_ot = true := by decide +kernel
theorem nx_two : Cond.classLink "RentByTheWheel" 142 nxN ∈ lw_tbl ∧ Cond.initialized nxN ∈ lw_tbl ∧ Cond.classLink "RentByTheWheelLaw" 13 nxN ∈ lw_tbl := by decide +kernel
theorem nx_hat {args : Array Value} {s : State} {A : Nat → Prop} (hts : ∀ w ∈ GW, w.before args s = true) (h : nx_Z A s) : ∀ w ∈ nx_at "RentByTheWheel" 146, w.before args s = true := by
  obtain ⟨-, -, -, n1, n2, n3, n4⟩ := h
  refine vx_hat (B := nx_bad) (fun w hw => hts w (GW_of (of_decide_eq_true (List.all_eq_true.mp nx_good_in w hw)) (List.mem_filter.mp hw).2)) (fun w hw => of_decide_eq_true (List.all_eq_true.mp nx_bad_in w hw)) ?_
  exact vx_c (n1.use rfl) (vx_c (n2.use rfl) (vx_c (n3.use rfl) (vx_c (n4.use rfl) vx_n)))
/-- thrown: the class, the world as it was -/
def nx_X (D : va_G) (E : Nat → ClassId) (r : Nat → Nat) (A : Nat → Prop) (S : ai_S) (V : ai_V) : String → State → State → Prop := fun N st t => N = nxN ∧ va_P D kcl (ai_w E r V S) t.heap ∧ va_F A st t
def nx_no : Array Value → State → Outcome → State → Prop := fun _ _ _ _ => False
def nx_P (D : va_G) (E : Nat → ClassId) (r : Nat → Nat) (sz : Nat) (S : ai_S) (V : ai_V) (as : List Value) : Array Value → State → Prop := fun a U => ai_Pc ai_Z D E r sz S V as a U ∧ nx_Z (va_A (ai_w E r V S) sz) U
theorem nx_blind {D : va_G} {E : Nat → ClassId} {r : Nat → Nat} {sz : Nat} {S : ai_S} {V : ai_V} {as : List Value} : FrameBlind (nx_P D E r sz S V as) := by
  intro a U g mk h
  exact ⟨ai_blind ai_Z_ok a U g mk h.1, h.2.calling⟩
def nx_rm : Room := { frames := 8, cells := 1, slots := 6, locals := 500 }
section NT
variable {p : Program} {L : Launch} {e : Env} {R : Room} {s : State} {m : MethodId} {args : Array Value} {below : List Frame} {meth : Method} {c : Code} {H : Heap} {locs : List Loc} {cells slots : Nat} {Q : State → Prop}
variable {own : String} {cc : ByteArray} {ret : Option FieldType} {ini : Bool} {nL pc nx op a b : Nat} {x : Int32} {ts : List (Int32 × Nat)} {l l' : ai_L} {st st' : List Value} {S S' : ai_S} {V V' : ai_V} {D : va_G} {E : Nat → ClassId} {r : Nat → Nat} {A : Nat → Prop} {ls : Array Slot} {rs : List ai_r}
theorem nx_end (F : CallFix p m c cc nL s args GW "RentByTheWheel") (hl0 : L.stackTraces = false) (htab : ∀ x ∈ c.exceptionTable.toList, False) (hlocks : meth.locks = false) (hz : nx_Z A s) (hR : R = nx_rm) {is sa : Nat} {text : String} (hstr : vk_R "RentByTheWheel" is text sa s) (hW : ai_Wd D E r A s H locs S V) (hl : lv_has ls nL (ai_lm r l))
    (hd : (decode cc pc = .ok (.new 142, 3) ∧ decode cc (pc + 3) = .ok (.dup, 1) ∧ decode cc (pc + 4) = .ok (.ldc is, 2) ∧ decode cc (pc + 6) = .ok (.invokespecial 146, 3) ∧ decode cc (pc + 9) = .ok (.athrow, 1)) ∨ (decode cc pc = .ok (.new 142, 3) ∧ decode cc (pc + 3) = .ok (.dup, 1) ∧ decode cc (pc + 4) = .ok (.ldc_w is, 3) ∧ decode cc (pc + 7) = .ok (.invokespecial 146, 3) ∧ decode cc (pc + 10) = .ok (.athrow, 1))) :
    W p L e R s m args below meth c H locs 0 0 (vx_MQ below nx_no (nx_X D E r A S V) args s 1 6 A) (F0 m pc ls []) := by
  obtain ⟨hx, hb, hml, hown, hts⟩ := F
  obtain ⟨hK, hO, hP, hD, hS⟩ := hW
  have g1 := hts _ (GW_of nx_two.1 rfl)
  have g2 := hts _ (GW_of nx_two.2.1 rfl)
  have g3 := nx_hat hts hz
  have g4 : ∀ w ∈ Cond.classLink "RentByTheWheel" 142 nxN :: Cond.initialized nxN :: nx_at "RentByTheWheel" 146, vx_ot w = true := fun w hw => List.all_eq_true.mp nx_ots w hw
  have hX : ∀ t : State, s.vm.Alike t.vm → H.size ≤ t.heap.size → (∀ q : Nat, q < H.size → t.heap[q]? = H[q]?) → nx_X D E r A S V nxN s t := by
    intro t _ h1 h2
    refine ⟨rfl, hP.kept (fun k q hk => h2 _ (vx_lt hP hk)), Nat.le_trans hS.1 h1, fun q h3 h4 => ?_⟩
    rw [h2 q (Nat.lt_of_lt_of_le h3 hS.1)]
    exact hS.2.1 q h3 h4
  subst hR
  rcases hd with ⟨d0, d3, d4, d6, d9⟩ | ⟨d0, d3, d4, d6, d9⟩
  · exact nx_throw hx hb hl0 hown g1 g2 hstr g3 g4 hz.1 hz.2.1 hS (hl.1.trans hml.symm) d0 d3 d4 d6 d9 (fun x h => (htab x h).elim) (by decide) (by decide) (by decide) (by decide) hlocks hX hS.2.2 (by decide) (by decide)
  · exact nx_throwW hx hb hl0 hown g1 g2 hstr g3 g4 hz.1 hz.2.1 hS (hl.1.trans hml.symm) d0 d3 d4 d6 d9 (fun x h => (htab x h).elim) (by decide) (by decide) (by decide) (by decide) hlocks hX hS.2.2 (by decide) (by decide)
end NT
/-- the walk of a method of the table up to its throw -/
def nx_way (L : Launch) (k : Nat) (as : List Value) (S : ai_S) (V : ai_V) : Prop := ∀ {p : Program} {e : Env} {s : State} {m : MethodId} {args : Array Value} {below : List Frame} {meth : Method} {c : Code} {H : Heap} {locs : List Loc} {D : va_G} {E : Nat → ClassId} {r : Nat → Nat} {A : Nat → Prop} {ls : Array Slot},
  CallFix p m c (ai_km k).2.1 (ai_km k).2.2.1 s args GW "RentByTheWheel" → (∀ x ∈ c.exceptionTable.toList, False) → meth.locks = false → nx_Z A s → ai_Z (r 999999) (r 999998) A s → (∀ q, s.heap.size ≤ q → A q) → ai_Wd D E r A s H locs S V → lv_has ls (ai_km k).2.2.1 (ai_lm r (lv_args 0 as)) →
  W p L e nx_rm s m args below meth c H locs 0 0 (vx_MQ below nx_no (nx_X D E r A S V) args s 1 6 A) (F0 m 0 ls [])
theorem nx_met {L : Launch} {k : Nat} {as : List Value} {S : ai_S} {V : ai_V} (hw : nx_way L k as S V) (hm : ai_mok k) (hc : (ai_km k).1.cls = "RentByTheWheel") (hfit : (lg_sl as).length ≤ (ai_km k).2.2.1) (D : va_G) (E : Nat → ClassId) (r : Nat → Nat) (sz : Nat) :
    vx_Met L (ai_km k).1 (ai_ws k) nx_rm (nx_P D E r sz S V as) nx_no (nx_X D E r (va_A (ai_w E r V S) sz) S V) 1 6 (va_A (ai_w E r V S) sz) := by
  refine vx_ofW (cc := (ai_km k).2.1) (maxL := (ai_km k).2.2.1) (ret := (ai_km k).2.2.2.1) hm.2.2.1 rfl ?_
  intro p e s m args below meth c s₁ B hml htab hv
  obtain ⟨⟨rfl, hsz, hP, hK, hO, hD0, hZ0⟩, hz⟩ := hv
  have hts := atoms_spec (ws := ai_ws k) B.pre
  subst hsz
  have hD := hD0.self (sz := s.heap.size)
  have hl := lv_entry (as.map (ai_cv r)) (n := (ai_km k).2.2.1) (by rw [ai_lg_sl]; exact hfit)
  rw [lg_entry_eq]
  generalize (lg_sl (as.map (ai_cv r)) ++ List.replicate ((ai_km k).2.2.1 - (lg_sl (as.map (ai_cv r))).length) Slot.unset).toArray = ls at hl ⊢
  rw [ai_lv_args] at hl
  exact hw ⟨B.exec, B.bytes, hml, by rw [← hc]; exact findClass_of_methodNamed B.named, fun w hw => hts w (List.mem_cons_of_mem _ hw)⟩ htab B.notSynchronized hz hZ0 (fun q h => Or.inr h) ⟨hK, hO, hP, hD, va_S.rf⟩ hl
