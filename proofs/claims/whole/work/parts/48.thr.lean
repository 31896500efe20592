/-! ===== the class's three methods that throw, and the law's helpers that catch ===== -/
def nx_d (C : String) : Cond := .declares (Bundle.initS C)
/-- what a throw wants beside the world, seen from a place that nothing of it writes -/
def nx_Z (A : Nat → Prop) (U : State) : Prop :=
  vx_Zq Bundle.tN "UNASSIGNED_STACK" Bundle.steD A U U.heap ∧ vx_Zq Bundle.tN "SUPPRESSED_SENTINEL" Bundle.listD A U U.heap ∧
  ((∃ sa, vk_R "RentByTheWheel" 144 "no such lodger" sa U) ∧ (∃ sa, vk_R "RentByTheWheel" 174 "nothing such is told of a lodger" sa U) ∧ (∃ sa, vk_R "RentByTheWheel" 445 "no such number of the row" sa U)) ∧
  va_Nw (nx_d nxR) U ∧ va_Nw (nx_d "java/lang/Exception") U ∧ va_Nw (nx_d Bundle.tN) U ∧ va_Nw (.castable nxN nxN) U
theorem nx_Z.move {A A' : Nat → Prop} {s U : State} (h : nx_Z A s) (hA : ∀ q, A' q → A q) (hq : ∀ q, q < s.heap.size → ¬ A q → U.heap[q]? = s.heap[q]?) (hw : s.WarmedH U.vm) : nx_Z A' U := by
  obtain ⟨h1, h2, ⟨⟨a1, m1⟩, ⟨a2, m2⟩, ⟨a3, m3⟩⟩, n1, n2, n3, n4⟩ := h
  exact ⟨((h1.moved hw.alike).kept hq).narrow hA, ((h2.moved hw.alike).kept hq).narrow hA, ⟨⟨a1, m1.warm hw⟩, ⟨a2, m2.warm hw⟩, ⟨a3, m3.warm hw⟩⟩, va_Nw.warmD hw n1, va_Nw.warmD hw n2, va_Nw.warmD hw n3, va_Nw.warmC hw n4⟩
theorem nx_Z.calling {A : Nat → Prop} {U : State} {g : JFrame} {mk : MethodId} {a : Array Value} (h : nx_Z A U) : nx_Z A (U.calling g mk a) := by
  obtain ⟨h1, h2, ⟨⟨a1, m1⟩, ⟨a2, m2⟩, ⟨a3, m3⟩⟩, n1, n2, n3, n4⟩ := h
  exact ⟨h1.moved (u := U) (U := U.calling g mk a) (Vm.Alike.refl U.vm), h2.moved (u := U) (U := U.calling g mk a) (Vm.Alike.refl U.vm),
    ⟨⟨a1, vk_R.same (u := U) (U := U.calling g mk a) rfl m1⟩, ⟨a2, vk_R.same (u := U) (U := U.calling g mk a) rfl m2⟩, ⟨a3, vk_R.same (u := U) (U := U.calling g mk a) rfl m3⟩⟩,
    va_Nw.same (u := U) (U := U.calling g mk a) rfl rfl n1, va_Nw.same (u := U) (U := U.calling g mk a) rfl rfl n2, va_Nw.same (u := U) (U := U.calling g mk a) rfl rfl n3, va_Nw.same (u := U) (U := U.calling g mk a) rfl rfl n4⟩
def nx_bad : List Cond := [nx_d nxR, nx_d "java/lang/Exception", nx_d Bundle.tN, .castable nxN nxN]
theorem nx_good_in : ((nx_at "RentByTheWheel" 146).filter goodWord).all (fun w => decide (w ∈ lw_tbl)) = true := by decide +kernel
theorem nx_bad_in : ((nx_at "RentByTheWheel" 146).filter (fun w => !goodWord w)).all (fun w => decide (w ∈ nx_bad)) = true := by decide +kernel
theorem nx_ots : (Cond.classLink "RentByTheWheel" 142 nxN :: Cond.initialized nxN :: nx_at "RentByTheWheel" 146).all vx_ot = true := by decide +kernel
theorem nx_two : Cond.classLink "RentByTheWheel" 142 nxN ∈ lw_tbl ∧ Cond.initialized nxN ∈ lw_tbl ∧ Cond.classLink "RentByTheWheelLaw" 13 nxN ∈ lw_tbl := by decide +kernel
theorem nx_hat {args : Array Value} {s : State} {A : Nat → Prop} (hts : ∀ w ∈ GW, w.before args s = true) (h : nx_Z A s) : ∀ w ∈ nx_at "RentByTheWheel" 146, w.before args s = true := by
  obtain ⟨-, -, -, n1, n2, n3, n4⟩ := h
  refine vx_hat (B := nx_bad) (fun w hw => hts w (GW_of (of_decide_eq_true (List.all_eq_true.mp nx_good_in w hw)) (List.mem_filter.mp hw).2)) (fun w hw => of_decide_eq_true (List.all_eq_true.mp nx_bad_in w hw)) ?_
  exact vx_c (n1.use rfl) (vx_c (n2.use rfl) (vx_c (n3.use rfl) (vx_c (n4.use rfl) vx_n)))
/-- thrown: the class, the world as it was -/
def nx_X (D : va_G) (E : Nat → ClassId) (r : Nat → Nat) (A : Nat → Prop) (S : ai_S) (V : ai_V) : String → State → State → Prop := fun N st t => N = nxN ∧ va_P D kcl (ai_w E r V S) t.heap ∧ va_F A st t
def nx_no : Array Value → State → Outcome → State → Prop := fun _ _ _ _ => False
def nx_P (D : va_G) (E : Nat → ClassId) (r : Nat → Nat) (sz : Nat) (S : ai_S) (V : ai_V) (as : List Value) : Array Value → State → Prop := fun a U => ai_Pc ai_Z D E r sz S V as a U ∧ nx_Z (va_A (ai_w E r V S) sz) U
theorem nx_blind {D : va_G} {E : Nat → ClassId} {r : Nat → Nat} {sz : Nat} {S : ai_S} {V : ai_V} {as : List Value} : FrameBlind (nx_P D E r sz S V as) := by
  intro a U g mk h
  exact ⟨ai_blind ai_Z_ok a U g mk h.1, h.2.calling⟩
def nx_rm : Room := { frames := 8, cells := 1, slots := 6, locals := 500 }
section NT
variable {p : Program} {L : Launch} {e : Env} {R : Room} {s : State} {m : MethodId} {args : Array Value} {below : List Frame} {meth : Method} {c : Code} {H : Heap} {locs : List Loc} {cells slots : Nat} {Q : State → Prop}
variable {own : String} {cc : ByteArray} {ret : Option FieldType} {ini : Bool} {nL pc nx op a b : Nat} {x : Int32} {ts : List (Int32 × Nat)} {l l' : ai_L} {st st' : List Value} {S S' : ai_S} {V V' : ai_V} {D : va_G} {E : Nat → ClassId} {r : Nat → Nat} {A : Nat → Prop} {ls : Array Slot} {rs : List ai_r}
theorem nx_end (F : CallFix p m c cc nL s args GW "RentByTheWheel") (hl0 : L.stackTraces = false) (htab : ∀ x ∈ c.exceptionTable.toList, False) (hlocks : meth.locks = false) (hz : nx_Z A s) (hR : R = nx_rm) {is sa : Nat} {text : String} (hstr : vk_R "RentByTheWheel" is text sa s) (hW : ai_Wd D E r A s H locs S V) (hl : lv_has ls nL (ai_lm r l))
    (hd : (decode cc pc = .ok (.new 142, 3) ∧ decode cc (pc + 3) = .ok (.dup, 1) ∧ decode cc (pc + 4) = .ok (.ldc is, 2) ∧ decode cc (pc + 6) = .ok (.invokespecial 146, 3) ∧ decode cc (pc + 9) = .ok (.athrow, 1)) ∨ (decode cc pc = .ok (.new 142, 3) ∧ decode cc (pc + 3) = .ok (.dup, 1) ∧ decode cc (pc + 4) = .ok (.ldc_w is, 3) ∧ decode cc (pc + 7) = .ok (.invokespecial 146, 3) ∧ decode cc (pc + 10) = .ok (.athrow, 1))) :
    W p L e R s m args below meth c H locs 0 0 (vx_MQ below nx_no (nx_X D E r A S V) args s 1 6 A) (F0 m pc ls []) := by
  obtain ⟨hx, hb, hml, hown, hts⟩ := F
  obtain ⟨hK, hO, hP, hD, hS⟩ := hW
  have g1 := hts _ (GW_of nx_two.1 rfl)
  have g2 := hts _ (GW_of nx_two.2.1 rfl)
  have g3 := nx_hat hts hz
  have g4 : ∀ w ∈ Cond.classLink "RentByTheWheel" 142 nxN :: Cond.initialized nxN :: nx_at "RentByTheWheel" 146, vx_ot w = true := fun w hw => List.all_eq_true.mp nx_ots w hw
  have hX : ∀ t : State, s.vm.Alike t.vm → H.size ≤ t.heap.size → (∀ q : Nat, q < H.size → t.heap[q]? = H[q]?) → nx_X D E r A S V nxN s t := by
    intro t _ h1 h2
    refine ⟨rfl, hP.kept (fun k q hk => h2 _ (vx_lt hP hk)), Nat.le_trans hS.1 h1, fun q h3 h4 => ?_⟩
    rw [h2 q (Nat.lt_of_lt_of_le h3 hS.1)]
    exact hS.2.1 q h3 h4
  subst hR
  rcases hd with ⟨d0, d3, d4, d6, d9⟩ | ⟨d0, d3, d4, d6, d9⟩
  · exact nx_throw hx hb hl0 hown g1 g2 hstr g3 g4 hz.1 hz.2.1 hS (hl.1.trans hml.symm) d0 d3 d4 d6 d9 (fun x h => (htab x h).elim) (by decide) (by decide) (by decide) (by decide) hlocks hX hS.2.2 (by decide) (by decide)
  · exact nx_throwW hx hb hl0 hown g1 g2 hstr g3 g4 hz.1 hz.2.1 hS (hl.1.trans hml.symm) d0 d3 d4 d6 d9 (fun x h => (htab x h).elim) (by decide) (by decide) (by decide) (by decide) hlocks hX hS.2.2 (by decide) (by decide)
end NT
/-- the walk of a method of the table up to its throw -/
def nx_way (L : Launch) (k : Nat) (as : List Value) (S : ai_S) (V : ai_V) : Prop := ∀ {p : Program} {e : Env} {s : State} {m : MethodId} {args : Array Value} {below : List Frame} {meth : Method} {c : Code} {H : Heap} {locs : List Loc} {D : va_G} {E : Nat → ClassId} {r : Nat → Nat} {A : Nat → Prop} {ls : Array Slot},
  CallFix p m c (ai_km k).2.1 (ai_km k).2.2.1 s args GW "RentByTheWheel" → (∀ x ∈ c.exceptionTable.toList, False) → meth.locks = false → nx_Z A s → ai_Z (r 999999) (r 999998) A s → (∀ q, s.heap.size ≤ q → A q) → ai_Wd D E r A s H locs S V → lv_has ls (ai_km k).2.2.1 (ai_lm r (lv_args 0 as)) →
  W p L e nx_rm s m args below meth c H locs 0 0 (vx_MQ below nx_no (nx_X D E r A S V) args s 1 6 A) (F0 m 0 ls [])
theorem nx_met {L : Launch} {k : Nat} {as : List Value} {S : ai_S} {V : ai_V} (hw : nx_way L k as S V) (hm : ai_mok k) (hc : (ai_km k).1.cls = "RentByTheWheel") (hfit : (lg_sl as).length ≤ (ai_km k).2.2.1) (D : va_G) (E : Nat → ClassId) (r : Nat → Nat) (sz : Nat) :
    vx_Met L (ai_km k).1 (ai_ws k) nx_rm (nx_P D E r sz S V as) nx_no (nx_X D E r (va_A (ai_w E r V S) sz) S V) 1 6 (va_A (ai_w E r V S) sz) := by
  refine vx_ofW (cc := (ai_km k).2.1) (maxL := (ai_km k).2.2.1) (ret := (ai_km k).2.2.2.1) hm.2.2.1 rfl ?_
  intro p e s m args below meth c s₁ B hml htab hv
  obtain ⟨⟨rfl, hsz, hP, hK, hO, hD0, hZ0⟩, hz⟩ := hv
  have hts := atoms_spec (ws := ai_ws k) B.pre
  subst hsz
  have hD := hD0.self (sz := s.heap.size)
  have hl := lv_entry (as.map (ai_cv r)) (n := (ai_km k).2.2.1) (by rw [ai_lg_sl]; exact hfit)
  rw [lg_entry_eq]
  generalize (lg_sl (as.map (ai_cv r)) ++ List.replicate ((ai_km k).2.2.1 - (lg_sl (as.map (ai_cv r))).length) Slot.unset).toArray = ls at hl ⊢
  rw [ai_lv_args] at hl
  exact hw ⟨B.exec, B.bytes, hml, by rw [← hc]; exact findClass_of_methodNamed B.named, fun w hw => hts w (List.mem_cons_of_mem _ hw)⟩ htab B.notSynchronized hz hZ0 (fun q h => Or.inr h) ⟨hK, hO, hP, hD, va_S.rf⟩ hl
/-! the ways -/
section WB
variable {p : Program} {L : Launch} {e : Env} {R : Room} {s : State} {m : MethodId} {args : Array Value} {below : List Frame} {meth : Method} {c : Code} {H : Heap} {locs : List Loc} {cells slots : Nat} {Q : State → Prop}
variable {own : String} {cc : ByteArray} {ret : Option FieldType} {ini : Bool} {nL pc nx op a b : Nat} {x : Int32} {ts : List (Int32 × Nat)} {l l' : ai_L} {st st' : List Value} {S S' : ai_S} {V V' : ai_V} {D : va_G} {E : Nat → ClassId} {r : Nat → Nat} {A : Nat → Prop} {ls : Array Slot} {rs : List ai_r}
theorem wn_brT {q : Prop} [Decidable q] {t f : Nat} (F : CallFix p m c cc nL s args GW own) (hok : rs.all (ai_okb own cc ret nL ini) = true) (hat : ai_at rs pc = some (nx, op, a, b, x, ts)) (h90 : op < 90) (hbr : ai_br op a b nx ts st S = some (if q then t else f, st')) (hq : q) (hW : ai_Wd D E r A s H locs S V)
    (kk : W p L e R s m args below meth c H locs cells slots Q (F0 m t ls (st'.map (ai_cv r)))) : W p L e R s m args below meth c H locs cells slots Q (F0 m pc ls (st.map (ai_cv r))) :=
  wn_br F hok hat h90 (by rw [if_pos hq] at hbr; exact hbr) hW kk
theorem wn_brF {q : Prop} [Decidable q] {t f : Nat} (F : CallFix p m c cc nL s args GW own) (hok : rs.all (ai_okb own cc ret nL ini) = true) (hat : ai_at rs pc = some (nx, op, a, b, x, ts)) (h90 : op < 90) (hbr : ai_br op a b nx ts st S = some (if q then t else f, st')) (hq : ¬ q) (hW : ai_Wd D E r A s H locs S V)
    (kk : W p L e R s m args below meth c H locs cells slots Q (F0 m f ls (st'.map (ai_cv r)))) : W p L e R s m args below meth c H locs cells slots Q (F0 m pc ls (st.map (ai_cv r))) :=
  wn_br F hok hat h90 (by rw [if_neg hq] at hbr; exact hbr) hW kk
end WB
set_option maxRecDepth 20000 in
theorem nx_lodger0 {L : Launch} (hl0 : L.stackTraces = false) {X : ai_S} {V : ai_V} {x1 x2 : Int32} (h : d_House_has x1 V = some 0) : nx_way L 256 [.ref 0, .int x1, .int x2] (SH ++ X) V := by
  intro p e s m args below meth c H locs D E r A ls F0' htab hlk hz hZ hA hW hl
  have F : CallFix p m c prog_1_method_6_code 3 s args GW "RentByTheWheel" := F0'
  obtain ⟨z1, z2, z3⟩ := hz.2.2.1
  refine wn_go (R := nx_rm) (ret := some .int) (ini := false) (st := []) F kz_xl_ok (fun h => nomatch h) (by decide) (by decide) (Nat.zero_le _) (Nat.zero_le _) hZ 3 (pc' := 5) (l' := [(0, .ref 0), (1, .int x1), (2, .int x2)]) (st' := [.int x1, .ref 3]) (S' := SH ++ X) (V' := V) rfl hW hl ?_
  intro H1 locs1 ls1 hW1 hl1
  refine wn_callV (ret := some .int) (ini := false) (d := 0) (o := 3) (as := [.int x1]) (rest := []) F kz_xl_ok rfl (t_House_has (X := X) (Nat.le_refl 0) h) rfl (by decide) rfl rfl rfl (by decide) (by decide) (by rw [Nat.sub_self]; exact Nat.zero_le _) (by rw [Nat.sub_self]; exact Nat.zero_le _) hZ hA hW1 hl1 ?_
  intro r' H2 locs2 hr' hW2
  obtain rfl := hr'.1 rfl
  simp only [Nat.sub_self, Nat.add_zero]
  refine wn_brF (ret := some .int) (ini := false) (st := [.int 0]) (st' := []) F kz_xl_ok rfl (by decide) rfl (by decide) hW2 ?_
  obtain ⟨sa, z⟩ := z1
  exact nx_end F hl0 htab hlk hz rfl z hW2 hl1 (Or.inl ⟨by decide +kernel, by decide +kernel, by decide +kernel, by decide +kernel, by decide +kernel⟩)
set_option maxRecDepth 20000 in
theorem nx_debt0 {L : Launch} (hl0 : L.stackTraces = false) {X : ai_S} {V : ai_V} {x1 : Int32} (h : d_House_has x1 V = some 0) : nx_way L 257 [.ref 0, .int x1] (SH ++ X) V := by
  intro p e s m args below meth c H locs D E r A ls F0' htab hlk hz hZ hA hW hl
  have F : CallFix p m c prog_1_method_7_code 2 s args GW "RentByTheWheel" := F0'
  obtain ⟨z1, z2, z3⟩ := hz.2.2.1
  refine wn_go (R := nx_rm) (ret := some .int) (ini := false) (st := []) F kz_xd_ok (fun h => nomatch h) (by decide) (by decide) (Nat.zero_le _) (Nat.zero_le _) hZ 3 (pc' := 5) (l' := [(0, .ref 0), (1, .int x1)]) (st' := [.int x1, .ref 3]) (S' := SH ++ X) (V' := V) rfl hW hl ?_
  intro H1 locs1 ls1 hW1 hl1
  refine wn_callV (ret := some .int) (ini := false) (d := 0) (o := 3) (as := [.int x1]) (rest := []) F kz_xd_ok rfl (t_House_has (X := X) (Nat.le_refl 0) h) rfl (by decide) rfl rfl rfl (by decide) (by decide) (by rw [Nat.sub_self]; exact Nat.zero_le _) (by rw [Nat.sub_self]; exact Nat.zero_le _) hZ hA hW1 hl1 ?_
  intro r' H2 locs2 hr' hW2
  obtain rfl := hr'.1 rfl
  simp only [Nat.sub_self, Nat.add_zero]
  refine wn_brF (ret := some .int) (ini := false) (st := [.int 0]) (st' := []) F kz_xd_ok rfl (by decide) rfl (by decide) hW2 ?_
  obtain ⟨sa, z⟩ := z1
  exact nx_end F hl0 htab hlk hz rfl z hW2 hl1 (Or.inl ⟨by decide +kernel, by decide +kernel, by decide +kernel, by decide +kernel, by decide +kernel⟩)
set_option maxRecDepth 20000 in
theorem nx_lodger1 {L : Launch} (hl0 : L.stackTraces = false) {X : ai_S} {V : ai_V} {x1 x2 : Int32} (h : d_House_has x1 V = some 1) (h2 : ai_sel [(0, 64), (1, 74), (2, 84), (3, 94), (4, 110), (5, 120), (6, 132)] 141 x2 = 141) : nx_way L 256 [.ref 0, .int x1, .int x2] (SH ++ X) V := by
  intro p e s m args below meth c H locs D E r A ls F0' htab hlk hz hZ hA hW hl
  have F : CallFix p m c prog_1_method_6_code 3 s args GW "RentByTheWheel" := F0'
  obtain ⟨z1, z2, z3⟩ := hz.2.2.1
  refine wn_go (R := nx_rm) (ret := some .int) (ini := false) (st := []) F kz_xl_ok (fun h => nomatch h) (by decide) (by decide) (Nat.zero_le _) (Nat.zero_le _) hZ 3 (pc' := 5) (l' := [(0, .ref 0), (1, .int x1), (2, .int x2)]) (st' := [.int x1, .ref 3]) (S' := SH ++ X) (V' := V) rfl hW hl ?_
  intro H1 locs1 ls1 hW1 hl1
  refine wn_callV (ret := some .int) (ini := false) (d := 0) (o := 3) (as := [.int x1]) (rest := []) F kz_xl_ok rfl (t_House_has (X := X) (Nat.le_refl 0) h) rfl (by decide) rfl rfl rfl (by decide) (by decide) (by rw [Nat.sub_self]; exact Nat.zero_le _) (by rw [Nat.sub_self]; exact Nat.zero_le _) hZ hA hW1 hl1 ?_
  intro r' H2 locs2 hr' hW2
  obtain rfl := hr'.1 rfl
  simp only [Nat.sub_self, Nat.add_zero]
  refine wn_brT (ret := some .int) (ini := false) (st := [.int 1]) (st' := []) F kz_xl_ok rfl (by decide) rfl (by decide) hW2 ?_
  refine wn_go (R := nx_rm) (ret := some .int) (ini := false) (st := []) F kz_xl_ok (fun h => nomatch h) (by decide) (by decide) (Nat.zero_le _) (Nat.zero_le _) hZ 1 (pc' := 22) (l' := [(0, .ref 0), (1, .int x1), (2, .int x2)]) (st' := [.int x2]) (S' := SH ++ X) (V' := V) rfl hW2 hl1 ?_
  intro H3 locs3 ls3 hW3 hl3
  refine wn_br (ret := some .int) (ini := false) (st := [.int x2]) (st' := []) (pc' := 141) F kz_xl_ok rfl (by decide) ?_ hW3 ?_
  · show some (ai_sel _ _ x2, ([] : List Value)) = some (141, [])
    rw [h2]
  obtain ⟨sa, z⟩ := z2
  exact nx_end F hl0 htab hlk hz rfl z hW3 hl3 (Or.inl ⟨by decide +kernel, by decide +kernel, by decide +kernel, by decide +kernel, by decide +kernel⟩)
set_option maxRecDepth 20000 in
theorem nx_row0 {L : Launch} (hl0 : L.stackTraces = false) {X : ai_S} {V : ai_V} {x1 : Int32} (h : x1 < 0) : nx_way L 258 [.ref 0, .int x1] (SH ++ X) V := by
  intro p e s m args below meth c H locs D E r A ls F0' htab hlk hz hZ hA hW hl
  have F : CallFix p m c prog_1_method_66_code 2 s args GW "RentByTheWheel" := F0'
  obtain ⟨z1, z2, z3⟩ := hz.2.2.1
  refine wn_go (R := nx_rm) (ret := some .long) (ini := false) (st := []) F kz_xr_ok (fun h => nomatch h) (by decide) (by decide) (Nat.zero_le _) (Nat.zero_le _) hZ 1 (pc' := 1) (l' := [(0, .ref 0), (1, .int x1)]) (st' := [.int x1]) (S' := SH ++ X) (V' := V) rfl hW hl ?_
  intro H1 locs1 ls1 hW1 hl1
  refine wn_brT (ret := some .long) (ini := false) (st := [.int x1]) (st' := []) F kz_xr_ok rfl (by decide) rfl h hW1 ?_
  obtain ⟨sa, z⟩ := z3
  exact nx_end F hl0 htab hlk hz rfl z hW1 hl1 (Or.inr ⟨by decide +kernel, by decide +kernel, by decide +kernel, by decide +kernel, by decide +kernel⟩)
set_option maxRecDepth 20000 in
theorem nx_row1 {L : Launch} (hl0 : L.stackTraces = false) {X : ai_S} {V : ai_V} {x1 : Int32} (h0 : ¬ x1 < 0) (h : ¬ x1 < gi V 22 1) : nx_way L 258 [.ref 0, .int x1] (SH ++ X) V := by
  intro p e s m args below meth c H locs D E r A ls F0' htab hlk hz hZ hA hW hl
  have F : CallFix p m c prog_1_method_66_code 2 s args GW "RentByTheWheel" := F0'
  obtain ⟨z1, z2, z3⟩ := hz.2.2.1
  refine wn_go (R := nx_rm) (ret := some .long) (ini := false) (st := []) F kz_xr_ok (fun h => nomatch h) (by decide) (by decide) (Nat.zero_le _) (Nat.zero_le _) hZ 1 (pc' := 1) (l' := [(0, .ref 0), (1, .int x1)]) (st' := [.int x1]) (S' := SH ++ X) (V' := V) rfl hW hl ?_
  intro H1 locs1 ls1 hW1 hl1
  refine wn_brF (ret := some .long) (ini := false) (st := [.int x1]) (st' := []) F kz_xr_ok rfl (by decide) rfl h0 hW1 ?_
  refine wn_go (R := nx_rm) (ret := some .long) (ini := false) (st := []) F kz_xr_ok (fun h => nomatch h) (by decide) (by decide) (Nat.zero_le _) (Nat.zero_le _) hZ 4 (pc' := 12) (l' := [(0, .ref 0), (1, .int x1)]) (st' := [.int (gi V 22 1), .int x1]) (S' := SH ++ X) (V' := V) rfl hW1 hl1 ?_
  intro H2 locs2 ls2 hW2 hl2
  refine wn_brF (ret := some .long) (ini := false) (st := [.int (gi V 22 1), .int x1]) (st' := []) F kz_xr_ok rfl (by decide) rfl h hW2 ?_
  obtain ⟨sa, z⟩ := z3
  exact nx_end F hl0 htab hlk hz rfl z hW2 hl2 (Or.inr ⟨by decide +kernel, by decide +kernel, by decide +kernel, by decide +kernel, by decide +kernel⟩)
/-! the helpers -/
theorem hx_ofW {l : Launch} {y : MethodName} {ws ws' : List Cond} {rm : Room} {Pc : Array Value → State → Prop} {Qc : Array Value → State → Outcome → State → Prop} {mc ms : Nat} {free : Addr → Prop} {cc : ByteArray} {maxL : Nat} {ret : Option FieldType} {hh : List (Nat × Nat × Nat × Nat)}
    (hy : plainName y.cls = true) (hw : ws = Cond.codeWith y cc maxL ret hh :: ws')
    (body : ∀ p e s m args below meth c s₁, BodyLoose p l y (headSpec ws rm) cc maxL ret e s m args below meth c s₁ → c.maxLocals = maxL → Pc args s →
      W p l e (headSpec ws rm).room s m args below meth c s.heap [] 0 0 (MQ below Qc args s mc ms free) (entryFrame m args maxL)) : Met l y ws rm Pc Qc mc ms free := by
  refine MetFree.of_bodyS (code := cc) (maxLocals := maxL) (ret := ret) hy ?_ ?_
  · intro args s m h hn
    obtain ⟨m9, meth, c, hn9, h1, h2, h3, h4, -, h5, h6, -⟩ := Cond.codeWith_spec (atoms_spec (ws := ws) h _ (by rw [hw]; exact List.mem_cons_self))
    cases hn.symm.trans hn9
    exact ⟨meth, c, h1, h2, h3, h4, h5, h6⟩
  · intro p e s m args below meth c s₁ B hml hP _
    have hh0 : s₁.heap = s.heap := by rw [B.state]; rfl
    obtain ⟨t, a1, o, b1, b2, b3⟩ := body p e s m args below meth c s₁ B hml hP s₁ hh0 (Stand.of_body B)
    exact ⟨t, o, a1, b1, b2, ⟨b3.1, b3.2⟩⟩
def hx_rm (mc ms : Nat) : Room := { frames := 20, cells := mc, slots := ms, locals := 1000 }
theorem nx_pre {D : va_G} {E : Nat → ClassId} {r : Nat → Nat} {A : Nat → Prop} {s : State} {H : Heap} {locs : List Loc} {S : ai_S} {V : ai_V} {as : List Value} (hz : nx_Z A s) (hZ : ai_Z (r 999999) (r 999998) A s) (hA : ∀ q, s.heap.size ≤ q → A q) (hW : ai_Wd D E r A s H locs S V) :
    ∀ U : State, U.heap = H → s.WarmedH U.vm → nx_P D E r H.size S V as (as.map (ai_cv r)).toArray U := by
  intro U hU hwm
  refine ⟨wn_pre hZ hA hW U hU hwm, ?_⟩
  obtain ⟨hK, hO, hP, hD, hSt⟩ := hW
  refine hz.move ?_ (fun q h1 h2 => by rw [hU]; exact hSt.2.1 q h1 h2) hwm
  intro q hq
  rcases hq with ⟨j, y, hj⟩ | hq
  · exact hD.2 j _ hj
  · exact hA q (Nat.le_trans hSt.1 hq)
section HX
variable {p : Program} {L : Launch} {e : Env} {R : Room} {s : State} {m : MethodId} {args : Array Value} {below : List Frame} {meth : Method} {c : Code} {H : Heap} {locs : List Loc} {cells slots : Nat} {Q : State → Prop}
variable {own : String} {cc : ByteArray} {ret : Option FieldType} {ini : Bool} {nL pc nx op a b : Nat} {x : Int32} {ts : List (Int32 × Nat)} {l l' : ai_L} {st st' : List Value} {S S' : ai_S} {V V' : ai_V} {D : va_G} {E : Nat → ClassId} {r : Nat → Nat} {A : Nat → Prop} {ls : Array Slot} {rs : List ai_r}
/-- a call that throws -/
theorem nx_callX {o : Nat} {as rest fs : List Value} (F : CallFix p m c cc nL s args GW own) (hok : rs.all (ai_okb own cc ret nL ini) = true) (hat : ai_at rs pc = some (nx, 90, a, b, x, ts)) (hM : vx_Met L (ai_km b).1 (ai_ws b) nx_rm (nx_P D E r H.size S V (.ref o :: as)) nx_no (nx_X D E r (va_A (ai_w E r V S) H.size) S V) 1 6 (va_A (ai_w E r V S) H.size)) (hob : ai_ob S o (ai_km b).2.2.2.2.2 = some fs) (h13 : (ai_km b).2.2.2.2.2 < 13)
    (hnp : as.length = ai_np b) (hfit : ai_fit b (.ref o :: as) rest = true) (hst : st = as.reverse ++ .ref o :: rest) (hfr : 9 ≤ R.frames) (hlo : 600 ≤ R.locals) (hcl : cells + 1 ≤ R.cells) (hsl : slots + 6 ≤ R.slots)
    (hz : nx_Z A s) (hZ : ai_Z (r 999999) (r 999998) A s) (hA : ∀ q, s.heap.size ≤ q → A q) (hW : ai_Wd D E r A s H locs S V) (hl : lv_has ls nL (ai_lm r l))
    (kk : ∀ (q : Addr) (ce : Cell) (H1 : Heap) (locs1 : List Loc), ai_Wd D E r A s H1 locs1 S V → H1[q]? = some ce → ce.vm = .none → s.vm.findClass nxN = some ce.cls → vx_W p L e R s m args below meth c H1 locs1 (cells + 1) (slots + 6) Q (F0 m pc ls (rest.map (ai_cv r))) q) : W p L e R s m args below meth c H locs cells slots Q (F0 m pc ls (st.map (ai_cv r))) := by
  have hok1 := List.all_eq_true.mp hok _ (ai_at_mem hat)
  have hts := F.2.2.2.2
  simp only [ai_okb, ai_mw, Bool.and_eq_true, decide_eq_true_eq] at hok1
  obtain ⟨⟨hd, ⟨⟨hw, hb259⟩, hci⟩⟩, hnx⟩ := hok1
  have hwm := ai_wd_spec hw
  have hmb := kg258 b hb259
  simp only [ai_fit, Bool.and_eq_true] at hfit
  have hf1 := Nat.le_of_ble_eq_true hfit.1
  have hcn : (ai_kc (ai_km b).2.2.2.2.2).1 = (ai_km b).1.cls := by
    rw [Bool.or_eq_true] at hci
    rcases hci with hci | hci
    · have := (of_decide_eq_true hci).1
      rw [this] at h13
      exact absurd h13 (by decide)
    · rw [Bool.and_eq_true] at hci
      exact of_decide_eq_true hci.2
  have hg : (ai_w E r V S)[o]? = some (r o, .inr ((ai_km b).2.2.2.2.2, fs.mapIdx (fun k v => ai_cv r (ai_fv V o k v)))) := by rw [ai_w_get, ai_ob_spec hob]; rfl
  obtain ⟨cell, g1, g2, g3⟩ := va_recv hW.1 hW.2.2.1 (kcl_get h13) hg
  rw [hcn] at g3
  have hstk : st.map (ai_cv r) = (as.map (ai_cv r)).reverse ++ .ref (r o) :: rest.map (ai_cv r) := by rw [hst]; simp [ai_cv]
  have hcat : (List.map (fun v => v.category) (rest.map (ai_cv r))).sum ≤ 8 := by rw [ai_cats]; exact hf1
  have h60 := hmb.2.2.2.2
  have hr := vx_runV (p := p) (e := e) (below := below) (meth := meth) (locs := locs) (cells := cells) (slots := slots) (g := F0 m pc ls (st.map (ai_cv r))) (As := as.map (ai_cv r)) (rest := rest.map (ai_cv r)) F hM ⟨callB_of (ai_km b).2.2.2.2.1 hts (ai_good hmb) rfl rfl rfl (hts _ (hwm _ (by simp))) (hts _ (hwm _ (by simp))) hmb.2.2.2.1 ⟨hfr, by simp only [nx_rm]; omega⟩, hts _ (hwm _ (by simp)), hts _ (hwm _ (by simp))⟩ ⟨nx_blind, ⟨cell, g1, g2, g3⟩, nx_pre hz hZ hA hW⟩ rfl (by rw [List.length_map]; exact hnp) hl.1 hstk (lv_room hcat) hd ⟨hcl, hsl⟩
  have hFc : ∀ q, va_A (ai_w E r V S) H.size q → A q := by
    intro q h
    rcases h with ⟨j, x, hj⟩ | h
    · exact hW.2.2.2.1.2 j _ hj
    · exact hA q (Nat.le_trans hW.2.2.2.2.1 h)
  intro T hT X
  rcases hr T hT X with ⟨v, st₀, t, T', L1, h0, X', hL, e1, e2, hno, stp⟩ | ⟨q, st₀, t, T', L1, N, ce, h0, X', hL, e1, e2, ⟨rfl, hP1, hz1, hk1⟩, hce, hcv, hcls, stp⟩
  · exact hno.elim
  · obtain ⟨hK, hO, hP, hD, hS⟩ := hW
    rw [h0] at hz1 hk1
    obtain ⟨t2, a1, b1⟩ := kk q ce T'.heap (locs ++ L1) ⟨hK, hO, by rw [e1]; exact hP1, hD, ⟨Nat.le_trans hS.1 (by rw [e1]; exact hz1), fun q h1 h2 => by
      rw [e1, hk1 q (Nat.lt_of_lt_of_le h1 hS.1) (fun z => h2 (hFc q z))]
      exact hS.2.1 q h1 h2, fun q hq => by
        rcases List.mem_append.mp hq with h | h
        · exact hS.2.2 q h
        · exact hFc _ (hL q h)⟩⟩ (by rw [e1]; exact hce) hcv hcls T' rfl X'
    exact ⟨t2, stp.trans a1, b1⟩
end HX
def hx_ws (y : MethodName) (cc : ByteArray) (n : Nat) (hh : List (Nat × Nat × Nat × Nat)) : List Cond := Cond.codeWith y cc n (some .int) hh :: GW
def hx_yl : MethodName := ⟨"RentByTheWheelLaw", "lodger", "(LRentByTheWheel;II[J)I"⟩
set_option maxRecDepth 20000 in
theorem hx_lodger_r {L : Launch} {X : ai_S} {V : ai_V} {x1 x2 : Int32} {v : Int32} (h : d_X_lodger x1 x2 V = some v) (D : va_G) (E : Nat → ClassId) (r : Nat → Nat) (sz : Nat) :
    Met L hx_yl (hx_ws hx_yl method_3_code 5 [(0, 10, 13, 13)]) (hx_rm 0 0) (nx_P D E r sz (SH ++ X) V [.ref 0, .int x1, .int x2, .ref 118]) (ai_Qc D E r (SH ++ X).length (va_A (ai_w E r V (SH ++ X)) sz) (some (.int 0)) (SH ++ X) (sl V 118 0 v.toInt64)) 0 0 (va_A (ai_w E r V (SH ++ X)) sz) := by
  refine hx_ofW (cc := method_3_code) (maxL := 5) (ret := some .int) (hh := [(0, 10, 13, 13)]) (by decide) rfl ?_
  intro p e s m args below meth c s₁ B hml hv
  obtain ⟨⟨rfl, hsz, hP, hK, hO, hD0, hZ0⟩, hz⟩ := hv
  have hts := atoms_spec (ws := hx_ws hx_yl method_3_code 5 [(0, 10, 13, 13)]) B.pre
  have htab := vx_table (x := hx_yl) B (hts _ List.mem_cons_self)
  subst hsz
  have hD := hD0.self (sz := s.heap.size)
  have hl := lv_entry ([.ref 0, .int x1, .int x2, .ref 118].map (ai_cv r)) (n := 5) (by rw [ai_lg_sl]; exact Nat.le_of_ble_eq_true rfl)
  rw [lg_entry_eq]
  generalize (lg_sl ([.ref 0, .int x1, .int x2, .ref 118].map (ai_cv r)) ++ List.replicate (5 - (lg_sl ([.ref 0, .int x1, .int x2, .ref 118].map (ai_cv r))).length) Slot.unset).toArray = ls at hl ⊢
  rw [ai_lv_args] at hl
  have F : CallFix p m c method_3_code 5 s (([.ref 0, .int x1, .int x2, .ref 118].map (ai_cv r)).toArray) GW "RentByTheWheelLaw" := ⟨B.exec, B.bytes, hml, findClass_of_methodNamed B.named, fun w hw => hts w (List.mem_cons_of_mem _ hw)⟩
  have hA : ∀ q, s.heap.size ≤ q → va_A (ai_w E r V (SH ++ X)) s.heap.size q := fun q h => Or.inr h
  have hW : ai_Wd D E r (va_A (ai_w E r V (SH ++ X)) s.heap.size) s s.heap [] (SH ++ X) V := ⟨hK, hO, hP, hD, va_S.rf⟩
  refine wn_go (ret := some .int) (ini := false) (st := []) F kz_hl_ok (fun h => nomatch h) (by decide) (by decide) (Nat.zero_le _) (Nat.zero_le _) hZ0 5 (pc' := 5) (l' := [(0, .ref 0), (1, .int x1), (2, .int x2), (3, .ref 118)]) (st' := [.int x2, .int x1, .ref 0, .int 0, .ref 118]) (S' := SH ++ X) (V' := V) rfl hW hl ?_
  intro H1 locs1 ls1 hW1 hl1
  refine wn_callV (ret := some .int) (ini := false) (d := 3) (o := 0) (as := [.int x1, .int x2]) (rest := [.int 0, .ref 118]) F kz_hl_ok rfl (t_X_lodger (X := X) (Nat.le_refl _) h) rfl (by decide) rfl rfl rfl (by decide) (by decide) (by rw [Nat.sub_self]; exact Nat.zero_le _) (by rw [Nat.sub_self]; exact Nat.zero_le _) hZ0 hA hW1 hl1 ?_
  intro r' H2 locs2 hr' hW2
  obtain rfl := hr'.1 rfl
  simp only [Nat.sub_self, Nat.add_zero]
  refine wn_go (ret := some .int) (ini := false) (st := [.int v, .int 0, .ref 118]) F kz_hl_ok (fun h => nomatch h) (by decide) (by decide) (Nat.zero_le _) (Nat.zero_le _) hZ0 4 (pc' := 18) (l' := [(0, .ref 0), (1, .int x1), (2, .int x2), (3, .ref 118)]) (st' := [.int 0]) (S' := SH ++ X) (V' := sl V 118 0 v.toInt64) rfl hW2 hl1 ?_
  intro H3 locs3 ls3 hW3 hl3
  obtain ⟨hK3, hO3, hP3, hD3, hS3⟩ := hW3
  exact W.iret F.1 F.2.1 B.returns (fun t ht hwm => ⟨⟨r', ai_Ag.rf, rfl, by rw [ht]; exact hP3, hD3⟩, hS3.F ht⟩) hS3.2.2 (by decide +kernel) B.notSynchronized
set_option maxRecDepth 20000 in
theorem hx_lodger_x {L : Launch} {X : ai_S} {V : ai_V} {x1 x2 : Int32} (hw : nx_way L 256 [.ref 0, .int x1, .int x2] (SH ++ X) V) (D : va_G) (E : Nat → ClassId) (r : Nat → Nat) (sz : Nat) :
    Met L hx_yl (hx_ws hx_yl method_3_code 5 [(0, 10, 13, 13)]) (hx_rm 1 6) (nx_P D E r sz (SH ++ X) V [.ref 0, .int x1, .int x2, .ref 118]) (ai_Qc D E r (SH ++ X).length (va_A (ai_w E r V (SH ++ X)) sz) (some (.int 1)) (SH ++ X) V) 1 6 (va_A (ai_w E r V (SH ++ X)) sz) := by
  refine hx_ofW (cc := method_3_code) (maxL := 5) (ret := some .int) (hh := [(0, 10, 13, 13)]) (by decide) rfl ?_
  intro p e s m args below meth c s₁ B hml hv
  obtain ⟨⟨rfl, hsz, hP, hK, hO, hD0, hZ0⟩, hz⟩ := hv
  have hts := atoms_spec (ws := hx_ws hx_yl method_3_code 5 [(0, 10, 13, 13)]) B.pre
  have htab := vx_table (x := hx_yl) B (hts _ List.mem_cons_self)
  subst hsz
  have hD := hD0.self (sz := s.heap.size)
  have hl := lv_entry ([.ref 0, .int x1, .int x2, .ref 118].map (ai_cv r)) (n := 5) (by rw [ai_lg_sl]; exact Nat.le_of_ble_eq_true rfl)
  rw [lg_entry_eq]
  generalize (lg_sl ([.ref 0, .int x1, .int x2, .ref 118].map (ai_cv r)) ++ List.replicate (5 - (lg_sl ([.ref 0, .int x1, .int x2, .ref 118].map (ai_cv r))).length) Slot.unset).toArray = ls at hl ⊢
  rw [ai_lv_args] at hl
  have F : CallFix p m c method_3_code 5 s (([.ref 0, .int x1, .int x2, .ref 118].map (ai_cv r)).toArray) GW "RentByTheWheelLaw" := ⟨B.exec, B.bytes, hml, findClass_of_methodNamed B.named, fun w hw => hts w (List.mem_cons_of_mem _ hw)⟩
  have hA : ∀ q, s.heap.size ≤ q → va_A (ai_w E r V (SH ++ X)) s.heap.size q := fun q h => Or.inr h
  have hW : ai_Wd D E r (va_A (ai_w E r V (SH ++ X)) s.heap.size) s s.heap [] (SH ++ X) V := ⟨hK, hO, hP, hD, va_S.rf⟩
  refine wn_go (ret := some .int) (ini := false) (st := []) F kz_hl_ok (fun h => nomatch h) (by decide) (by decide) (Nat.zero_le _) (Nat.zero_le _) hZ0 5 (pc' := 5) (l' := [(0, .ref 0), (1, .int x1), (2, .int x2), (3, .ref 118)]) (st' := [.int x2, .int x1, .ref 0, .int 0, .ref 118]) (S' := SH ++ X) (V' := V) rfl hW hl ?_
  intro H1 locs1 ls1 hW1 hl1
  refine nx_callX (ret := some .int) (ini := false) (o := 0) (as := [.int x1, .int x2]) (rest := [.int 0, .ref 118]) F kz_hl_ok rfl (nx_met hw (kg258 _ (by decide)) rfl (Nat.le_of_ble_eq_true rfl) D E r H1.size) rfl (by decide) rfl rfl rfl (by decide) (by decide) (by decide) (by decide) hz hZ0 hA hW1 hl1 ?_
  intro q ce H2 locs2 hW2 hq hcv hcl
  refine vx_catch (own := "RentByTheWheelLaw") (name := nxN) F.2.2.2.1 ⟨0, 10, 13, 13⟩ htab (by decide) (by decide) (F.2.2.2.2 _ (GW_of nx_two.2.2 rfl)) (hz.2.2.2.2.2.2.use rfl) hq hcv hcl ?_
  have hl2 := hl1
  refine lv_astore F.1 F.2.1 (i := 4) (by decide +kernel) hl2 (by decide) rfl ?_
  intro ls3 hl3
  refine lv_iconst F.1 F.2.1 (n := 1) (v := 1) (by decide +kernel) rfl ?_
  obtain ⟨hK3, hO3, hP3, hD3, hS3⟩ := hW2
  exact W.iret F.1 F.2.1 B.returns (fun t ht hwm => ⟨⟨r, ai_Ag.rf, rfl, by rw [ht]; exact hP3, hD3⟩, hS3.F ht⟩) hS3.2.2 (by decide +kernel) B.notSynchronized
def hx_yd : MethodName := ⟨"RentByTheWheelLaw", "debt", "(LRentByTheWheel;I[J)I"⟩
set_option maxRecDepth 20000 in
theorem hx_debt_r {L : Launch} {X : ai_S} {V : ai_V} {x1 : Int32} {v : Int32} (h : d_X_debt x1 V = some v) (D : va_G) (E : Nat → ClassId) (r : Nat → Nat) (sz : Nat) :
    Met L hx_yd (hx_ws hx_yd method_4_code 4 [(0, 9, 12, 13)]) (hx_rm 0 0) (nx_P D E r sz (SH ++ X) V [.ref 0, .int x1, .ref 118]) (ai_Qc D E r (SH ++ X).length (va_A (ai_w E r V (SH ++ X)) sz) (some (.int 0)) (SH ++ X) (sl V 118 0 v.toInt64)) 0 0 (va_A (ai_w E r V (SH ++ X)) sz) := by
  refine hx_ofW (cc := method_4_code) (maxL := 4) (ret := some .int) (hh := [(0, 9, 12, 13)]) (by decide) rfl ?_
  intro p e s m args below meth c s₁ B hml hv
  obtain ⟨⟨rfl, hsz, hP, hK, hO, hD0, hZ0⟩, hz⟩ := hv
  have hts := atoms_spec (ws := hx_ws hx_yd method_4_code 4 [(0, 9, 12, 13)]) B.pre
  have htab := vx_table (x := hx_yd) B (hts _ List.mem_cons_self)
  subst hsz
  have hD := hD0.self (sz := s.heap.size)
  have hl := lv_entry ([.ref 0, .int x1, .ref 118].map (ai_cv r)) (n := 4) (by rw [ai_lg_sl]; exact Nat.le_of_ble_eq_true rfl)
  rw [lg_entry_eq]
  generalize (lg_sl ([.ref 0, .int x1, .ref 118].map (ai_cv r)) ++ List.replicate (4 - (lg_sl ([.ref 0, .int x1, .ref 118].map (ai_cv r))).length) Slot.unset).toArray = ls at hl ⊢
  rw [ai_lv_args] at hl
  have F : CallFix p m c method_4_code 4 s (([.ref 0, .int x1, .ref 118].map (ai_cv r)).toArray) GW "RentByTheWheelLaw" := ⟨B.exec, B.bytes, hml, findClass_of_methodNamed B.named, fun w hw => hts w (List.mem_cons_of_mem _ hw)⟩
  have hA : ∀ q, s.heap.size ≤ q → va_A (ai_w E r V (SH ++ X)) s.heap.size q := fun q h => Or.inr h
  have hW : ai_Wd D E r (va_A (ai_w E r V (SH ++ X)) s.heap.size) s s.heap [] (SH ++ X) V := ⟨hK, hO, hP, hD, va_S.rf⟩
  refine wn_go (ret := some .int) (ini := false) (st := []) F kz_hd_ok (fun h => nomatch h) (by decide) (by decide) (Nat.zero_le _) (Nat.zero_le _) hZ0 4 (pc' := 4) (l' := [(0, .ref 0), (1, .int x1), (2, .ref 118)]) (st' := [.int x1, .ref 0, .int 0, .ref 118]) (S' := SH ++ X) (V' := V) rfl hW hl ?_
  intro H1 locs1 ls1 hW1 hl1
  refine wn_callV (ret := some .int) (ini := false) (d := 1) (o := 0) (as := [.int x1]) (rest := [.int 0, .ref 118]) F kz_hd_ok rfl (t_X_debt (X := X) (Nat.le_refl _) h) rfl (by decide) rfl rfl rfl (by decide) (by decide) (by rw [Nat.sub_self]; exact Nat.zero_le _) (by rw [Nat.sub_self]; exact Nat.zero_le _) hZ0 hA hW1 hl1 ?_
  intro r' H2 locs2 hr' hW2
  obtain rfl := hr'.1 rfl
  simp only [Nat.sub_self, Nat.add_zero]
  refine wn_go (ret := some .int) (ini := false) (st := [.int v, .int 0, .ref 118]) F kz_hd_ok (fun h => nomatch h) (by decide) (by decide) (Nat.zero_le _) (Nat.zero_le _) hZ0 4 (pc' := 16) (l' := [(0, .ref 0), (1, .int x1), (2, .ref 118)]) (st' := [.int 0]) (S' := SH ++ X) (V' := sl V 118 0 v.toInt64) rfl hW2 hl1 ?_
  intro H3 locs3 ls3 hW3 hl3
  obtain ⟨hK3, hO3, hP3, hD3, hS3⟩ := hW3
  exact W.iret F.1 F.2.1 B.returns (fun t ht hwm => ⟨⟨r', ai_Ag.rf, rfl, by rw [ht]; exact hP3, hD3⟩, hS3.F ht⟩) hS3.2.2 (by decide +kernel) B.notSynchronized
set_option maxRecDepth 20000 in
theorem hx_debt_x {L : Launch} {X : ai_S} {V : ai_V} {x1 : Int32} (hw : nx_way L 257 [.ref 0, .int x1] (SH ++ X) V) (D : va_G) (E : Nat → ClassId) (r : Nat → Nat) (sz : Nat) :
    Met L hx_yd (hx_ws hx_yd method_4_code 4 [(0, 9, 12, 13)]) (hx_rm 1 6) (nx_P D E r sz (SH ++ X) V [.ref 0, .int x1, .ref 118]) (ai_Qc D E r (SH ++ X).length (va_A (ai_w E r V (SH ++ X)) sz) (some (.int 1)) (SH ++ X) V) 1 6 (va_A (ai_w E r V (SH ++ X)) sz) := by
  refine hx_ofW (cc := method_4_code) (maxL := 4) (ret := some .int) (hh := [(0, 9, 12, 13)]) (by decide) rfl ?_
  intro p e s m args below meth c s₁ B hml hv
  obtain ⟨⟨rfl, hsz, hP, hK, hO, hD0, hZ0⟩, hz⟩ := hv
  have hts := atoms_spec (ws := hx_ws hx_yd method_4_code 4 [(0, 9, 12, 13)]) B.pre
  have htab := vx_table (x := hx_yd) B (hts _ List.mem_cons_self)
  subst hsz
  have hD := hD0.self (sz := s.heap.size)
  have hl := lv_entry ([.ref 0, .int x1, .ref 118].map (ai_cv r)) (n := 4) (by rw [ai_lg_sl]; exact Nat.le_of_ble_eq_true rfl)
  rw [lg_entry_eq]
  generalize (lg_sl ([.ref 0, .int x1, .ref 118].map (ai_cv r)) ++ List.replicate (4 - (lg_sl ([.ref 0, .int x1, .ref 118].map (ai_cv r))).length) Slot.unset).toArray = ls at hl ⊢
  rw [ai_lv_args] at hl
  have F : CallFix p m c method_4_code 4 s (([.ref 0, .int x1, .ref 118].map (ai_cv r)).toArray) GW "RentByTheWheelLaw" := ⟨B.exec, B.bytes, hml, findClass_of_methodNamed B.named, fun w hw => hts w (List.mem_cons_of_mem _ hw)⟩
  have hA : ∀ q, s.heap.size ≤ q → va_A (ai_w E r V (SH ++ X)) s.heap.size q := fun q h => Or.inr h
  have hW : ai_Wd D E r (va_A (ai_w E r V (SH ++ X)) s.heap.size) s s.heap [] (SH ++ X) V := ⟨hK, hO, hP, hD, va_S.rf⟩
  refine wn_go (ret := some .int) (ini := false) (st := []) F kz_hd_ok (fun h => nomatch h) (by decide) (by decide) (Nat.zero_le _) (Nat.zero_le _) hZ0 4 (pc' := 4) (l' := [(0, .ref 0), (1, .int x1), (2, .ref 118)]) (st' := [.int x1, .ref 0, .int 0, .ref 118]) (S' := SH ++ X) (V' := V) rfl hW hl ?_
  intro H1 locs1 ls1 hW1 hl1
  refine nx_callX (ret := some .int) (ini := false) (o := 0) (as := [.int x1]) (rest := [.int 0, .ref 118]) F kz_hd_ok rfl (nx_met hw (kg258 _ (by decide)) rfl (Nat.le_of_ble_eq_true rfl) D E r H1.size) rfl (by decide) rfl rfl rfl (by decide) (by decide) (by decide) (by decide) hz hZ0 hA hW1 hl1 ?_
  intro q ce H2 locs2 hW2 hq hcv hcl
  refine vx_catch (own := "RentByTheWheelLaw") (name := nxN) F.2.2.2.1 ⟨0, 9, 12, 13⟩ htab (by decide) (by decide) (F.2.2.2.2 _ (GW_of nx_two.2.2 rfl)) (hz.2.2.2.2.2.2.use rfl) hq hcv hcl ?_
  have hl2 := hl1
  refine lv_astore_n F.1 F.2.1 (k := 3) (by decide +kernel) rfl hl2 (by decide) rfl ?_
  intro ls3 hl3
  refine lv_iconst F.1 F.2.1 (n := 1) (v := 1) (by decide +kernel) rfl ?_
  obtain ⟨hK3, hO3, hP3, hD3, hS3⟩ := hW2
  exact W.iret F.1 F.2.1 B.returns (fun t ht hwm => ⟨⟨r, ai_Ag.rf, rfl, by rw [ht]; exact hP3, hD3⟩, hS3.F ht⟩) hS3.2.2 (by decide +kernel) B.notSynchronized
def hx_yr : MethodName := ⟨"RentByTheWheelLaw", "row", "(LRentByTheWheel;I[J)I"⟩
set_option maxRecDepth 20000 in
theorem hx_row_r {L : Launch} {X : ai_S} {V : ai_V} {x1 : Int32} {v : Int64} (h : d_X_row x1 V = some v) (D : va_G) (E : Nat → ClassId) (r : Nat → Nat) (sz : Nat) :
    Met L hx_yr (hx_ws hx_yr method_5_code 4 [(0, 8, 11, 13)]) (hx_rm 0 0) (nx_P D E r sz (SH ++ X) V [.ref 0, .int x1, .ref 118]) (ai_Qc D E r (SH ++ X).length (va_A (ai_w E r V (SH ++ X)) sz) (some (.int 0)) (SH ++ X) (sl V 118 0 v)) 0 0 (va_A (ai_w E r V (SH ++ X)) sz) := by
  refine hx_ofW (cc := method_5_code) (maxL := 4) (ret := some .int) (hh := [(0, 8, 11, 13)]) (by decide) rfl ?_
  intro p e s m args below meth c s₁ B hml hv
  obtain ⟨⟨rfl, hsz, hP, hK, hO, hD0, hZ0⟩, hz⟩ := hv
  have hts := atoms_spec (ws := hx_ws hx_yr method_5_code 4 [(0, 8, 11, 13)]) B.pre
  have htab := vx_table (x := hx_yr) B (hts _ List.mem_cons_self)
  subst hsz
  have hD := hD0.self (sz := s.heap.size)
  have hl := lv_entry ([.ref 0, .int x1, .ref 118].map (ai_cv r)) (n := 4) (by rw [ai_lg_sl]; exact Nat.le_of_ble_eq_true rfl)
  rw [lg_entry_eq]
  generalize (lg_sl ([.ref 0, .int x1, .ref 118].map (ai_cv r)) ++ List.replicate (4 - (lg_sl ([.ref 0, .int x1, .ref 118].map (ai_cv r))).length) Slot.unset).toArray = ls at hl ⊢
  rw [ai_lv_args] at hl
  have F : CallFix p m c method_5_code 4 s (([.ref 0, .int x1, .ref 118].map (ai_cv r)).toArray) GW "RentByTheWheelLaw" := ⟨B.exec, B.bytes, hml, findClass_of_methodNamed B.named, fun w hw => hts w (List.mem_cons_of_mem _ hw)⟩
  have hA : ∀ q, s.heap.size ≤ q → va_A (ai_w E r V (SH ++ X)) s.heap.size q := fun q h => Or.inr h
  have hW : ai_Wd D E r (va_A (ai_w E r V (SH ++ X)) s.heap.size) s s.heap [] (SH ++ X) V := ⟨hK, hO, hP, hD, va_S.rf⟩
  refine wn_go (ret := some .int) (ini := false) (st := []) F kz_hr_ok (fun h => nomatch h) (by decide) (by decide) (Nat.zero_le _) (Nat.zero_le _) hZ0 4 (pc' := 4) (l' := [(0, .ref 0), (1, .int x1), (2, .ref 118)]) (st' := [.int x1, .ref 0, .int 0, .ref 118]) (S' := SH ++ X) (V' := V) rfl hW hl ?_
  intro H1 locs1 ls1 hW1 hl1
  refine wn_callV (ret := some .int) (ini := false) (d := 0) (o := 0) (as := [.int x1]) (rest := [.int 0, .ref 118]) F kz_hr_ok rfl (t_X_row (X := X) (Nat.le_refl _) h) rfl (by decide) rfl rfl rfl (by decide) (by decide) (by rw [Nat.sub_self]; exact Nat.zero_le _) (by rw [Nat.sub_self]; exact Nat.zero_le _) hZ0 hA hW1 hl1 ?_
  intro r' H2 locs2 hr' hW2
  obtain rfl := hr'.1 rfl
  simp only [Nat.sub_self, Nat.add_zero]
  refine wn_go (ret := some .int) (ini := false) (st := [.long v, .int 0, .ref 118]) F kz_hr_ok (fun h => nomatch h) (by decide) (by decide) (Nat.zero_le _) (Nat.zero_le _) hZ0 3 (pc' := 15) (l' := [(0, .ref 0), (1, .int x1), (2, .ref 118)]) (st' := [.int 0]) (S' := SH ++ X) (V' := sl V 118 0 v) rfl hW2 hl1 ?_
  intro H3 locs3 ls3 hW3 hl3
  obtain ⟨hK3, hO3, hP3, hD3, hS3⟩ := hW3
  exact W.iret F.1 F.2.1 B.returns (fun t ht hwm => ⟨⟨r', ai_Ag.rf, rfl, by rw [ht]; exact hP3, hD3⟩, hS3.F ht⟩) hS3.2.2 (by decide +kernel) B.notSynchronized
set_option maxRecDepth 20000 in
theorem hx_row_x {L : Launch} {X : ai_S} {V : ai_V} {x1 : Int32} (hw : nx_way L 258 [.ref 0, .int x1] (SH ++ X) V) (D : va_G) (E : Nat → ClassId) (r : Nat → Nat) (sz : Nat) :
    Met L hx_yr (hx_ws hx_yr method_5_code 4 [(0, 8, 11, 13)]) (hx_rm 1 6) (nx_P D E r sz (SH ++ X) V [.ref 0, .int x1, .ref 118]) (ai_Qc D E r (SH ++ X).length (va_A (ai_w E r V (SH ++ X)) sz) (some (.int 1)) (SH ++ X) V) 1 6 (va_A (ai_w E r V (SH ++ X)) sz) := by
  refine hx_ofW (cc := method_5_code) (maxL := 4) (ret := some .int) (hh := [(0, 8, 11, 13)]) (by decide) rfl ?_
  intro p e s m args below meth c s₁ B hml hv
  obtain ⟨⟨rfl, hsz, hP, hK, hO, hD0, hZ0⟩, hz⟩ := hv
  have hts := atoms_spec (ws := hx_ws hx_yr method_5_code 4 [(0, 8, 11, 13)]) B.pre
  have htab := vx_table (x := hx_yr) B (hts _ List.mem_cons_self)
  subst hsz
  have hD := hD0.self (sz := s.heap.size)
  have hl := lv_entry ([.ref 0, .int x1, .ref 118].map (ai_cv r)) (n := 4) (by rw [ai_lg_sl]; exact Nat.le_of_ble_eq_true rfl)
  rw [lg_entry_eq]
  generalize (lg_sl ([.ref 0, .int x1, .ref 118].map (ai_cv r)) ++ List.replicate (4 - (lg_sl ([.ref 0, .int x1, .ref 118].map (ai_cv r))).length) Slot.unset).toArray = ls at hl ⊢
  rw [ai_lv_args] at hl
  have F : CallFix p m c method_5_code 4 s (([.ref 0, .int x1, .ref 118].map (ai_cv r)).toArray) GW "RentByTheWheelLaw" := ⟨B.exec, B.bytes, hml, findClass_of_methodNamed B.named, fun w hw => hts w (List.mem_cons_of_mem _ hw)⟩
  have hA : ∀ q, s.heap.size ≤ q → va_A (ai_w E r V (SH ++ X)) s.heap.size q := fun q h => Or.inr h
  have hW : ai_Wd D E r (va_A (ai_w E r V (SH ++ X)) s.heap.size) s s.heap [] (SH ++ X) V := ⟨hK, hO, hP, hD, va_S.rf⟩
  refine wn_go (ret := some .int) (ini := false) (st := []) F kz_hr_ok (fun h => nomatch h) (by decide) (by decide) (Nat.zero_le _) (Nat.zero_le _) hZ0 4 (pc' := 4) (l' := [(0, .ref 0), (1, .int x1), (2, .ref 118)]) (st' := [.int x1, .ref 0, .int 0, .ref 118]) (S' := SH ++ X) (V' := V) rfl hW hl ?_
  intro H1 locs1 ls1 hW1 hl1
  refine nx_callX (ret := some .int) (ini := false) (o := 0) (as := [.int x1]) (rest := [.int 0, .ref 118]) F kz_hr_ok rfl (nx_met hw (kg258 _ (by decide)) rfl (Nat.le_of_ble_eq_true rfl) D E r H1.size) rfl (by decide) rfl rfl rfl (by decide) (by decide) (by decide) (by decide) hz hZ0 hA hW1 hl1 ?_
  intro q ce H2 locs2 hW2 hq hcv hcl
  refine vx_catch (own := "RentByTheWheelLaw") (name := nxN) F.2.2.2.1 ⟨0, 8, 11, 13⟩ htab (by decide) (by decide) (F.2.2.2.2 _ (GW_of nx_two.2.2 rfl)) (hz.2.2.2.2.2.2.use rfl) hq hcv hcl ?_
  have hl2 := hl1
  refine lv_astore_n F.1 F.2.1 (k := 3) (by decide +kernel) rfl hl2 (by decide) rfl ?_
  intro ls3 hl3
  refine lv_iconst F.1 F.2.1 (n := 1) (v := 1) (by decide +kernel) rfl ?_
  obtain ⟨hK3, hO3, hP3, hD3, hS3⟩ := hW2
  exact W.iret F.1 F.2.1 B.returns (fun t ht hwm => ⟨⟨r, ai_Ag.rf, rfl, by rw [ht]; exact hP3, hD3⟩, hS3.F ht⟩) hS3.2.2 (by decide +kernel) B.notSynchronized
