section WZ
variable {p : Program} {L : Launch} {e : Env} {R : Room} {s : State} {m : MethodId} {args : Array Value} {below : List Frame} {meth : Method} {c : Code} {H : Heap} {locs : List Loc} {cells slots : Nat} {Q : State → Prop}
variable {own : String} {cc : ByteArray} {ret : Option FieldType} {ini : Bool} {nL pc nx op a b : Nat} {x : Int32} {ts : List (Int32 × Nat)} {l l' : ai_L} {st st' : List Value} {S S' : ai_S} {V V' : ai_V} {D : va_G} {E : Nat → ClassId} {r : Nat → Nat} {A : Nat → Prop} {ls : Array Slot}
theorem ws_newO (F : CallFix p m c cc nL s args GW own) (hok : ai_okb own cc ret nL ini (pc, nx, 65, a, b, x, ts) = true) (he : ai_newO b (ai_F b) [] st S V = some (l', st', S', V')) (hW : ai_Wd D E r A s H locs S V) (hA : ∀ q, s.heap.size ≤ q → A q) (hcells : cells + 1 ≤ R.cells) (hslots : slots + (ai_F b).length ≤ R.slots)
    (kk : ∀ (r' : Nat → Nat), (∀ q, q ≠ S.length → r' q = r q) → ∀ H1 : Heap, ai_Wd D E r' A s H1 locs S' V' → W p L e R s m args below meth c H1 locs (cells + 1) (slots + (ai_F b).length) Q (F0 m nx ls (st'.map (ai_cv r')))) : W p L e R s m args below meth c H locs cells slots Q (F0 m pc ls (st.map (ai_cv r))) := by
  obtain ⟨hx, hb, -, hown, hts⟩ := F
  simp only [ai_okb, Bool.and_eq_true, decide_eq_true_eq] at hok
  obtain ⟨⟨⟨hd, hw⟩, hb13⟩, rfl⟩ := hok
  have hwm := ai_wd_spec hw
  unfold ai_newO at he
  cases hf : ai_free [] st S V with
  | false => rw [hf] at he; cases he
  | true =>
    rw [hf] at he
    cases he
    simp only [ai_free, ai_fs, Bool.and_eq_true] at hf
    obtain ⟨hK, hO, hP, hD, hSt⟩ := hW
    obtain ⟨hlen, hdef⟩ := kf_chk b hb13
    have hslots' : slots + (ai_kc b).2.2 ≤ R.slots := by rw [← hlen]; exact hslots
    refine va_new (ci := b) (T := (ai_kc b).2.1) (N := (ai_kc b).2.2) (C := (ai_kc b).1) (fs := (ai_F b).mapIdx (fun k v => ai_dv v)) hx hb hts (kw_all hb13) (ai_kt b) (ky_all hb13) hown (hts _ (hwm _ (by simp))) (hts _ (hwm _ (by simp))) (hts _ (hwm _ (by simp))) hK hP hD hSt hA (kcl_get hb13) (fun j hj => ?_) hcells hslots' hd (fun q H1 hP1 hD1 hS1 => ?_)
    · rw [(hdef j hj).1]
      have hj2 : j < (ai_F b).length := by omega
      simp only [vp_V, List.getD_eq_getElem?_getD, List.getElem?_mapIdx, List.getElem?_eq_getElem hj2, Option.map_some, Option.getD_some]
    · have hnew := ai_w_new (E := E) (r := r) (V := V) (V' := ai_zf V S.length) (S := S) (q := q) (e := .inr (b, ai_F b)) (x := .inr (b, (ai_F b).mapIdx (fun k v => ai_dv v))) hf.1.2 (fun j d hj => ai_ce_row (V := V) (V' := ai_zf V S.length) (j := j) (fun k => by simp [gi, ai_zf, Nat.ne_of_lt hj]) (fun k => by simp [gj, ai_zf, Nat.ne_of_lt hj]) rfl rfl (fun k => by simp [gr, ai_zf, Nat.ne_of_lt hj]) d) (by
        show (Sum.inr (b, _) : va_E) = _
        congr 2
        apply List.ext_getElem?
        intro j
        rw [List.getElem?_mapIdx, List.getElem?_mapIdx]
        cases hj : (ai_F b)[j]? with
        | none => rfl
        | some v =>
          have hj2 : j < (ai_F b).length := (List.getElem?_eq_some_iff.mp hj).1
          have hp := (hdef j (by omega)).2
          rw [List.getD_eq_getElem?_getD, hj, Option.getD_some] at hp
          rw [Option.map_some, Option.map_some, ai_zf_fv hp])
      rw [← hnew] at hP1 hD1
      have k2 := kk (fun a => if a = S.length then q else r a) (fun z hz => if_neg hz) H1 ⟨hK, hO, hP1, hD1, hS1⟩
      rw [List.map_cons, ai_fs_st hf.1.1.2] at k2
      simp only [ai_cv, if_pos] at k2
      rw [hlen] at k2
      exact k2
theorem ws_newA (F : CallFix p m c cc nL s args GW own) (hok : ai_okb own cc ret nL ini (pc, nx, 66, a, b, x, ts) = true) {i : Int32} (he : ai_newA b [] (.int i :: st) S V = some (l', st', S', V')) (hW : ai_Wd D E r A s H locs S V) (hA : ∀ q, s.heap.size ≤ q → A q) (hcells : cells + 1 ≤ R.cells) (hslots : slots + i.toNatClampNeg ≤ R.slots)
    (kk : ∀ (r' : Nat → Nat), (∀ q, q ≠ S.length → r' q = r q) → ∀ H1 : Heap, ai_Wd D E r' A s H1 locs S' V' → W p L e R s m args below meth c H1 locs (cells + 1) (slots + i.toNatClampNeg) Q (F0 m nx ls (st'.map (ai_cv r')))) : W p L e R s m args below meth c H locs cells slots Q (F0 m pc ls ((Value.int i :: st).map (ai_cv r))) := by
  obtain ⟨hx, hb, -, hown, hts⟩ := F
  simp only [ai_okb, Bool.and_eq_true, decide_eq_true_eq] at hok
  obtain ⟨⟨⟨hd, hw⟩, hb4⟩, rfl⟩ := hok
  have hwm := ai_wd_spec hw
  simp only [ai_newA] at he
  split at he
  · rename_i hi
    cases hf : ai_free [] st S V with
    | false => rw [hf] at he; cases he
    | true =>
      rw [hf] at he
      cases he
      simp only [ai_free, ai_fs, Bool.and_eq_true] at hf
      obtain ⟨hK, hO, hP, hD, hSt⟩ := hW
      have hi2 : i.toNatClampNeg ≤ 100000 := by
        have h1 := hi.1
        have h2 := hi.2
        rw [Int32.le_iff_toInt_le] at h1 h2
        have h3 : i.toInt ≤ 100000 := h2
        have h4 : 0 ≤ i.toInt := h1
        rw [Int32.toNatClampNeg]
        omega
      have hty := ai_hty hb4
      have hcb := ai_hcb hb4 hi2
      refine va_newa (atype := ai_ac b) (ty := ai_aty b) (a0 := (i.toNatClampNeg, if b = 1 then .inr (.inl (fun _ => 0)) else .inl (fun _ => 0))) hx hb (by rw [hty]; exact hts _ (hwm _ (by simp))) hty hK hP hD hSt hA (fun cA => ?_) (fa9_nlt hi.1) rfl hcb hcells hslots hd (fun q cA H1 hK1 hP1 hD1 hS1 => ?_)
      · exact ai_hcell hb4 cA
      · have hcA : cA = E b := ai_RA_inj hb4 (hK1.2 5 (cA, ai_aty b) rfl).2 (hK.2 b (E b, ai_aty b) (ai_tys_at hb4)).2
        subst hcA
        have hnew := ai_w_new (E := E) (r := r) (V := V) (V' := ai_z V S.length) (S := S) (q := q) (e := .inl (b, i.toNatClampNeg, if b = 1 then .inr (.inl (fun _ => 0)) else .inl (fun _ => 0))) (x := .inl (E b, i.toNatClampNeg, if b = 1 then .inr (.inl (fun _ => 0)) else .inl (fun _ => 0))) hf.1.2 (fun j d hj => ai_ce_row (V := V) (V' := ai_z V S.length) (j := j) (fun k => rfl) (fun k => rfl) (by simp [ai_z, Nat.ne_of_lt hj]) (by simp [ai_z, Nat.ne_of_lt hj]) (fun k => rfl) d) (by
          by_cases h1 : b = 1
          · simp only [h1, if_pos, ai_ce, ai_z]
          · simp only [h1, if_false, ai_ce, ai_z, if_pos])
        rw [← hnew] at hP1 hD1
        have k2 := kk (fun a => if a = S.length then q else r a) (fun z hz => if_neg hz) H1 ⟨hK, hO, hP1, hD1, hS1⟩
        rw [List.map_cons, ai_fs_st hf.1.1.2] at k2
        simp only [ai_cv, if_pos] at k2
        exact k2
  · cases he
end WZ
def slots_ok (a b n : Nat) : Prop := 0 + a + b ≤ n
/-! ===== the law: its start ===== -/
section WS
variable {p : Program} {L : Launch} {e : Env} {s : State} {m : MethodId} {args : Array Value} {below : List Frame} {meth : Method} {c : Code} {cells slots : Nat} {Q : State → Prop}
variable {nx op a b pc : Nat} {x : Int32} {ts : List (Int32 × Nat)} {l l' : ai_L} {st st' : List Value} {S S' : ai_S} {V V' : ai_V} {D : va_G} {E : Nat → ClassId} {r : Nat → Nat} {A : Nat → Prop} {n : Nat} {xs : Nat → Int32}
theorem wl_newO (C : lw_C p L s m args meth c A r n xs) (hat : ai_at kz_law pc = some (nx, 65, a, b, x, ts)) (he : ai_newO b (ai_F b) [] st S V = some ([], st', S', V')) (hS : S.length ≤ 900000) (hc : cells + 1 ≤ 194196) (hs : slots + (ai_F b).length ≤ 8513518) (hlo : ∀ r' : Nat → Nat, (∀ q, q ≠ S.length → r' q = r q) → ai_lm r l = ai_lm r' l)
    (kk : ∀ r' : Nat → Nat, ai_Ag S.length (S.length + 1) r r' → WL p L e s m args below meth c (cells + 1) (slots + (ai_F b).length) Q D E r' A nx l st' S' V') : WL p L e s m args below meth c cells slots Q D E r A pc l st S V := by
  intro H locs ls hW hl
  refine ws_newO C.1 (List.all_eq_true.mp kz_law_ok _ (ai_at_mem hat)) he hW C.2.2.2.1 hc hs ?_
  intro r' hr' H1 hW1
  exact kk r' ⟨fun h => by omega, fun q hq => hr' q (by omega)⟩ H1 locs ls hW1 (by rw [← hlo r' hr']; exact hl)
theorem wl_newA (C : lw_C p L s m args meth c A r n xs) {i : Int32} (hat : ai_at kz_law pc = some (nx, 66, a, b, x, ts)) (he : ai_newA b [] (.int i :: st) S V = some ([], st', S', V')) (hS : S.length ≤ 900000) (hc : cells + 1 ≤ 194196) (hs : slots + i.toNatClampNeg ≤ 8513518) (hlo : ∀ r' : Nat → Nat, (∀ q, q ≠ S.length → r' q = r q) → ai_lm r l = ai_lm r' l)
    (kk : ∀ r' : Nat → Nat, ai_Ag S.length (S.length + 1) r r' → WL p L e s m args below meth c (cells + 1) (slots + i.toNatClampNeg) Q D E r' A nx l st' S' V') : WL p L e s m args below meth c cells slots Q D E r A pc l (.int i :: st) S V := by
  intro H locs ls hW hl
  refine ws_newA C.1 (List.all_eq_true.mp kz_law_ok _ (ai_at_mem hat)) he hW C.2.2.2.1 hc hs ?_
  intro r' hr' H1 hW1
  exact kk r' ⟨fun h => by omega, fun q hq => hr' q (by omega)⟩ H1 locs ls hW1 (by rw [← hlo r' hr']; exact hl)
theorem wl_callI {d o : Nat} {as rest : List Value} (C : lw_C p L s m args meth c A r n xs) (hat : ai_at kz_law pc = some (nx, 92, a, b, x, ts)) (hrun : Rn d b 0 (lv_args 0 (.ref o :: as)) [] S V none S' V') (hnp : as.length = ai_np b) (hfit : ai_fit b (.ref o :: as) rest = true) (hst : st = as.reverse ++ .ref o :: rest) (hd : d ≤ 500) (hcl : cells + (S'.length - S.length) ≤ 194196) (hsl : slots + (ai_sz S' - ai_sz S) ≤ 8513518)
    (hro : ∀ r' : Nat → Nat, ai_Ag S.length S'.length r r' → rest.map (ai_cv r) = rest.map (ai_cv r')) (hlo : ∀ r' : Nat → Nat, ai_Ag S.length S'.length r r' → ai_lm r l = ai_lm r' l)
    (kk : ∀ r' : Nat → Nat, ai_Ag S.length S'.length r r' → WL p L e s m args below meth c (cells + (S'.length - S.length)) (slots + (ai_sz S' - ai_sz S)) Q D E r' A (pc + 3) l rest S' V') : WL p L e s m args below meth c cells slots Q D E r A pc l st S V := by
  intro H locs ls hW hl
  refine wn_callI C.1 kz_law_ok hat hrun hnp hfit hst (by show d + 2 ≤ 2048; omega) (by show 100 * (d + 1) + 300 ≤ 84000; omega) hcl hsl C.2.1 C.2.2.2.1 hW hl ?_
  intro r' H1 locs1 hr' hW1
  have h := kk r' hr' H1 locs1 ls hW1 (by rw [← hlo r' hr']; exact hl)
  rw [← hro r' hr'] at h
  exact h
theorem wl_same (h : ai_same S SH = true) (kk : WL p L e s m args below meth c cells slots Q D E r A pc l st SH (Vc V)) : WL p L e s m args below meth c cells slots Q D E r A pc l st S V := by
  intro H locs ls hW hl
  refine kk H locs ls (Wd_cut ?_) hl
  have e := ai_same_w (E := E) (r := r) (V := V) h
  unfold ai_Wd at hW ⊢
  rw [← e]; exact hW
end WS
def kfree : Bool := match kctor1 with
  | some (none, S1, V1) => ai_free [] [] S1 V1 && Nat.ble (ai_sz S1) 30000 && (match kctor2 S1 V1 with
    | some (none, S2, V2) => ai_free [] [] S2 V2 && Nat.ble (ai_sz S2) 30000 && Nat.beq S2.length 118
    | _ => false)
  | _ => false
set_option maxRecDepth 100000 in
theorem kfree_ok : kfree = true := by decide +kernel
theorem kct : ∃ S1 V1 S2 V2, kctor1 = some (none, S1, V1) ∧ S1.length = 89 ∧ kctor2 S1 V1 = some (none, S2, V2) ∧ S2.length = 118 ∧ ai_same (S2 ++ [.inl (1, 1, .inr (.inl (fun _ => 0)))]) SH = true ∧ kv_chk (ai_z V2 118) = true ∧ ai_free [] [] S1 V1 = true ∧ ai_free [] [] S2 V2 = true ∧ ai_sz S1 ≤ 30000 ∧ ai_sz S2 ≤ 30000 := by
  have h := kctor_ok
  have g := kfree_ok
  unfold kctor at h
  unfold kfree at g
  split at h
  · rename_i S1 V1 h1
    rw [h1] at g
    rw [Bool.and_eq_true] at h
    simp only [Bool.and_eq_true] at g
    obtain ⟨h2, h3⟩ := h
    obtain ⟨⟨g1, g2⟩, g3⟩ := g
    split at h3
    · rename_i S2 V2 h4
      rw [h4] at g3
      rw [Bool.and_eq_true] at h3
      simp only [Bool.and_eq_true] at g3
      obtain ⟨⟨g4, g5⟩, g6⟩ := g3
      exact ⟨S1, V1, S2, V2, h1, Nat.eq_of_beq_eq_true h2, h4, Nat.eq_of_beq_eq_true g6, h3.1, h3.2, g1, g4, Nat.le_of_ble_eq_true g2, Nat.le_of_ble_eq_true g5⟩
    · cases h3
  · cases h
theorem ar_prim {s : State} {args : Array Value} {ty : FieldType} (h : (Cond.arrayClass ty).before args s = true) (hno : ∀ C, ty ≠ .object C) : ∃ cA, ArrOfT s cA ty ∧ va_RA s cA ty := by
  obtain ⟨cA, kA, comp, h1, h2, h3⟩ := Cond.arrayClass_spec h
  refine ⟨cA, fun n z => ⟨fun k h => (by cases h), kA, h2, comp, h3⟩, ?_⟩
  cases ty with
  | object C => exact absurd rfl (hno C)
  | _ => exact h1
theorem ar_obj {s : State} {args : Array Value} {C : String} (h : (Cond.arrayOver (.object C)).before args s = true) : ∃ cA, ArrOfT s cA (.object C) ∧ va_RA s cA (.object C) := by
  obtain ⟨comp, cA, kA, hcomp, hidx, hkA, hkindA, hnameA⟩ := Cond.arrayOver_spec h
  exact ⟨cA, fun n z => ⟨fun k h => (by cases h), kA, hkA, comp, hkindA⟩, kA, comp, hkA, hkindA, hcomp, hnameA⟩
theorem nst_in : ∀ q ∈ ai_nst, Cond.methodLinkNest "RentByTheWheel" q.1 (ai_km q.2).1 "RentByTheWheel" ∈ lw_tbl := by decide +kernel
theorem st_str {s : State} {args : Array Value} {own tx : String} {k : Nat} (h1 : (Cond.stringRef own k tx).before args s = true) (h2 : (Cond.exactly (.string own k) "java/lang/String").before args s = true) : ∃ sa, vk_R own k tx sa s := by
  obtain ⟨a, c, cA, kA, q1, -⟩ := Cond.exactly_spec (args := args) (first := s) (o := none) (s := s) (idx := []) (t := .string own k) (cls := "java/lang/String") h2
  exact ⟨a, vk_R.of h1 q1⟩
set_option maxRecDepth 30000 in
theorem whole_start {p : Program} {e : Env} {s : State} {m : MethodId} {below : List Frame} {meth : Method} {c : Code} (l : Launch) (hst : l.stackTraces = false) {b L : Nat} {xs : Nat → Int32} (hL : L ≤ 2560) (C0 : lw_At p s m meth c b L xs) : W p l e room_1 s m #[Value.ref b] below meth c s.heap [] 0 0 (lw_Z below #[Value.ref b] s) (entryFrame m ([Value.ref b] : List Value).toArray 8) := by
  obtain ⟨hx, hb, hr, hml, hown, hts, hX, hbl, hlocks, hgv⟩ := id C0
  have hs := flat_of_before _ hgv
  have htg : ∀ w ∈ GW, w.before #[Value.ref b] s = true := fun w hw => hts w (List.mem_filter.mp hw).1
  have hA : ∀ a : Nat, a < s.heap.size → ¬ (fun q : Nat => s.heap.size ≤ q) a := fun a h => Nat.not_le.mpr h
  obtain ⟨c0, i0, hK0⟩ := u_known (C := "RentByTheWheel$House") (T := kc0) (N := 9) (n := 9) htg kw0 (hts (.instantiable "RentByTheWheel$House" 9) (by decide +kernel))
  obtain ⟨c1, i1, hK1⟩ := u_known (C := "RentByTheWheel$Pairing") (T := kc1) (N := 5) (n := 5) htg kw1 (hts (.instantiable "RentByTheWheel$Pairing" 5) (by decide +kernel))
  obtain ⟨c2, i2, hK2⟩ := u_known (C := "RentByTheWheel$Past") (T := kc2) (N := 3) (n := 3) htg kw2 (hts (.instantiable "RentByTheWheel$Past" 3) (by decide +kernel))
  obtain ⟨c3, i3, hK3⟩ := u_known (C := "RentByTheWheel$Pegs") (T := kc3) (N := 6) (n := 6) htg kw3 (hts (.instantiable "RentByTheWheel$Pegs" 6) (by decide +kernel))
  obtain ⟨c4, i4, hK4⟩ := u_known (C := "RentByTheWheel$Plan") (T := kc4) (N := 7) (n := 7) htg kw4 (hts (.instantiable "RentByTheWheel$Plan" 7) (by decide +kernel))
  obtain ⟨c5, i5, hK5⟩ := u_known (C := "RentByTheWheel$Row") (T := kc5) (N := 2) (n := 2) htg kw5 (hts (.instantiable "RentByTheWheel$Row" 2) (by decide +kernel))
  obtain ⟨c6, i6, hK6⟩ := u_known (C := "RentByTheWheel$Rule") (T := kc6) (N := 8) (n := 8) htg kw6 (hts (.instantiable "RentByTheWheel$Rule" 8) (by decide +kernel))
  obtain ⟨c7, i7, hK7⟩ := u_known (C := "RentByTheWheel$State") (T := kc7) (N := 5) (n := 5) htg kw7 (hts (.instantiable "RentByTheWheel$State" 5) (by decide +kernel))
  obtain ⟨c8, i8, hK8⟩ := u_known (C := "RentByTheWheel$Text") (T := kc8) (N := 2) (n := 2) htg kw8 (hts (.instantiable "RentByTheWheel$Text" 2) (by decide +kernel))
  obtain ⟨c9, i9, hK9⟩ := u_known (C := "RentByTheWheel$Wheel") (T := kc9) (N := 6) (n := 6) htg kw9 (hts (.instantiable "RentByTheWheel$Wheel" 6) (by decide +kernel))
  obtain ⟨c10, i10, hK10⟩ := u_known (C := "RentByTheWheel$Worths") (T := kc10) (N := 8) (n := 8) htg kw10 (hts (.instantiable "RentByTheWheel$Worths" 8) (by decide +kernel))
  obtain ⟨c11, i11, hK11⟩ := u_known (C := "RentByTheWheel") (T := kc11) (N := 15) (n := 15) htg kw11 (hts (.instantiable "RentByTheWheel" 15) (by decide +kernel))
  obtain ⟨c12, i12, hK12⟩ := u_known (C := "RentByTheWheelModel") (T := kc12) (N := 62) (n := 62) htg kw12 (hts (.instantiable "RentByTheWheelModel" 62) (by decide +kernel))
  obtain ⟨D, hKc⟩ : ∃ D : va_G, ∀ (k : Nat) (q : vw_C), kcl[k]? = some q → u_Kn s q.1 q.2.1 q.2.2 (D.1 k) (D.2 k) := by
    refine ⟨(fun k => [c0, c1, c2, c3, c4, c5, c6, c7, c8, c9, c10, c11, c12].getD k c0, fun k => [i0, i1, i2, i3, i4, i5, i6, i7, i8, i9, i10, i11, i12].getD k i0), ?_⟩
    intro k q hq
    match k, hq with
    | 0, hq => cases hq; exact hK0
    | 1, hq => cases hq; exact hK1
    | 2, hq => cases hq; exact hK2
    | 3, hq => cases hq; exact hK3
    | 4, hq => cases hq; exact hK4
    | 5, hq => cases hq; exact hK5
    | 6, hq => cases hq; exact hK6
    | 7, hq => cases hq; exact hK7
    | 8, hq => cases hq; exact hK8
    | 9, hq => cases hq; exact hK9
    | 10, hq => cases hq; exact hK10
    | 11, hq => cases hq; exact hK11
    | 12, hq => cases hq; exact hK12
    | k + 13, hq => simp [kcl] at hq
  obtain ⟨e0, x0, y0⟩ := ar_prim (ty := .int) (hts (.arrayClass .int) (by decide +kernel)) (fun C h => by cases h)
  obtain ⟨e1, x1, y1⟩ := ar_prim (ty := .long) (hts (.arrayClass .long) (by decide +kernel)) (fun C h => by cases h)
  obtain ⟨e2, x2, y2⟩ := ar_prim (ty := .byte) (hts (.arrayClass .byte) (by decide +kernel)) (fun C h => by cases h)
  obtain ⟨e3, x3, y3⟩ := ar_prim (ty := .boolean) (hts (.arrayClass .boolean) (by decide +kernel)) (fun C h => by cases h)
  have hao := hts (.arrayOver (.object "RentByTheWheel$State")) (by decide +kernel)
  obtain ⟨e4, x4, y4⟩ := ar_obj hao
  obtain ⟨E, hKt⟩ : ∃ E : Nat → ClassId, ∀ (k : Nat) (q : ClassId × FieldType), (ai_tys E)[k]? = some q → ArrOfT s q.1 q.2 ∧ va_RA s q.1 q.2 := by
    refine ⟨fun k => [e0, e1, e2, e3, e4].getD k e0, ?_⟩
    intro k q hq
    match k, hq with
    | 0, hq => cases hq; exact ⟨x0, y0⟩
    | 1, hq => cases hq; exact ⟨x1, y1⟩
    | 2, hq => cases hq; exact ⟨x2, y2⟩
    | 3, hq => cases hq; exact ⟨x3, y3⟩
    | 4, hq => cases hq; exact ⟨x4, y4⟩
    | k + 5, hq => simp [ai_tys] at hq
  obtain ⟨adK, adV, hvS, hev⟩ := vk_Sof (args := #[Value.ref b]) (s := s) (N := 1) (tm := fun _ => .string "RentByTheWheel$Rule" 13) (len := [7]) (byt := [[116, 112, 119, 108, 110, 113, 121]]) (A := fun q : Nat => s.heap.size ≤ q)
    (fun i hi => by
      obtain rfl : i = 0 := by omega
      decide) (fun i hi => hs _ (by decide +kernel)) (fun i hi => hs _ (by decide +kernel)) (fun i hi => hs _ (by decide +kernel)) (fun i hi => by
      obtain rfl : i = 0 := by omega
      exact hs _ (by decide +kernel)) (fun i hi j hj => by
      obtain rfl : i = 0 := by omega
      match j, hj with
      | 0, _ => exact hs _ (by decide +kernel)
      | 1, _ => exact hs _ (by decide +kernel)
      | 2, _ => exact hs _ (by decide +kernel)
      | 3, _ => exact hs _ (by decide +kernel)
      | 4, _ => exact hs _ (by decide +kernel)
      | 5, _ => exact hs _ (by decide +kernel)
      | 6, _ => exact hs _ (by decide +kernel)
      | j + 7, hj => exact absurd hj (by simp)) (fun i j hi hj hij => absurd (show i = j by omega) hij) hA
  have hZ : ai_Z (adK 0) (adV 0) (fun q : Nat => s.heap.size ≤ q) s := by
    refine ⟨⟨fun i hi => ?_, fun i j hi hj _ => by omega⟩, vk_R.of (hts (.stringRef "RentByTheWheel$Rule" 13 "tpwlnqy") (by decide +kernel)) (hev 0 (by omega)), va_Zof (hts (.laysStatic "java/lang/String" "COMPACT_STRINGS" "Z") (by decide +kernel)) (hts (.initialized "java/lang/String") (by decide +kernel)) (va_eqi (hs _ (by decide +kernel))) hA, fun q hq => va_Nw.of rfl (hts _ (nst_in q hq))⟩
    obtain rfl : i = 0 := by omega
    exact hvS.1 0 (by omega)
  have hN : nx_Z (fun q : Nat => s.heap.size ≤ q) s := by
    refine ⟨vx_Zqof (hts _ (by decide +kernel)) (hts _ (by decide +kernel)) (hs _ (by decide +kernel)) hA, vx_Zqof (hts _ (by decide +kernel)) (hts _ (by decide +kernel)) (hs _ (by decide +kernel)) hA, ⟨st_str (hts _ (by decide +kernel)) (hs _ (by decide +kernel)), st_str (hts _ (by decide +kernel)) (hs _ (by decide +kernel)), st_str (hts _ (by decide +kernel)) (hs _ (by decide +kernel))⟩, va_Nw.of rfl (hts _ (by decide +kernel)), va_Nw.of rfl (hts _ (by decide +kernel)), va_Nw.of rfl (hts _ (by decide +kernel)), va_Nw.of rfl (hts _ (by decide +kernel))⟩
  -- the references
  have C : lw_C p l s m #[Value.ref b] meth c (fun q : Nat => s.heap.size ≤ q) (fun q => if q = 999999 then adK 0 else if q = 999998 then adV 0 else b) L xs := by
    refine ⟨⟨hx, hb, hml, hown, htg⟩, ?_, hN, fun q h => h, ?_, ?_, ?_, hst⟩
    · simpa using hZ
    · simpa using hX
    · simpa using hbl
    · simpa using hbl
  have hl := lv_entry ([.ref b]) (n := 8) (Nat.le_of_ble_eq_true rfl)
  rw [lg_entry_eq]
  generalize (lg_sl ([.ref b]) ++ List.replicate (8 - (lg_sl ([.ref b])).length) Slot.unset).toArray = ls at hl ⊢
  have hl : lv_has ls 8 [(0, .ref b)] := hl
  generalize hr0 : (fun q => if q = 999999 then adK 0 else if q = 999998 then adV 0 else b) = r0 at C
  have h96 : r0 999996 = b := by rw [← hr0]; simp
  have hW : ai_Wd D E r0 (fun q : Nat => s.heap.size ≤ q) s s.heap [] [] V00 := ⟨⟨hKc, hKt⟩, va_AO.of hao, fun k q h => by simp [ai_w] at h, ⟨fun i j p q h => by simp [ai_w] at h, fun k q h => by simp [ai_w] at h⟩, va_S.rf⟩
  have hl0 : lv_has ls 8 (ai_lm r0 [(0, .ref 999996)]) := by
    show lv_has ls 8 [(0, .ref (r0 999996))]
    rw [h96]; exact hl
  suffices hgo : WL p l e s m #[Value.ref b] below meth c 0 0 (lw_Z below #[Value.ref b] s) D E r0 (fun q : Nat => s.heap.size ≤ q) 0 [(0, .ref 999996)] [] [] V00 from hgo s.heap [] ls hW hl0
  clear hl hl0 hW
  obtain ⟨S1, V1, S2, V2, k1, k2, k3, k4, k5, k6, k7, k8, k9, k10⟩ := kct
  refine wl_newO (b := 11) C rfl (st' := [.ref 0]) (S' := [.inr (11, ai_F 11)]) (V' := ai_zf V00 0) rfl (by decide) (by omega) (by decide) (fun r' hr' => ?_) ?_
  · show [(0, Value.ref (r0 999996))] = [(0, Value.ref (r' 999996))]
    rw [hr' 999996 (by decide)]
  intro r1 h1
  have C1 := C.move h1
  refine wl_go C1 (by decide) (by decide) 1 (pc' := 4) (l' := [(0, .ref 999996)]) (st' := [.ref 0, .ref 0]) (S' := [.inr (11, ai_F 11)]) (V' := ai_zf V00 0) rfl ?_
  have hz1 : slots_ok (ai_F 11).length (ai_sz S1 - ai_sz [.inr (11, ai_F 11)]) 40000 := by
    unfold slots_ok
    have : (ai_F 11).length ≤ 100 := by decide
    omega
  refine wl_callI (d := 20) (o := 0) (as := []) (rest := [.ref 0]) C1 rfl ⟨4000, k1⟩ rfl (by decide +kernel) rfl (by decide) (by rw [k2]; decide) (by unfold slots_ok at hz1; omega) (fun r' hr' => ?_) (fun r' hr' => ?_) ?_
  · show [Value.ref (r1 0)] = [Value.ref (r' 0)]
    rw [hr'.2 0 (Or.inl (by decide))]
  · show [(0, Value.ref (r1 999996))] = [(0, Value.ref (r' 999996))]
    rw [hr'.2 999996 (Or.inr (by decide))]
  intro r2 h2
  have C2 := C1.move h2
  refine wl_wide (k := 200) (j := 40000) (by rw [k2]; decide) (by unfold slots_ok at hz1; omega) ?_
  refine wl_go C2 (by decide) (by decide) 1 (pc' := 8) (l' := [(1, .ref 0), (0, .ref 999996)]) (st' := []) (S' := S1) (V' := V1) rfl ?_
  refine wl_newO (b := 12) C2 rfl (st' := [.ref 89]) (S' := S1 ++ [.inr (12, ai_F 12)]) (V' := ai_zf V1 S1.length) (by rw [ai_newO, k7, k2]; rfl) (by omega) (by omega) (by decide) (fun r' hr' => ?_) ?_
  · show [(1, Value.ref (r2 0)), (0, Value.ref (r2 999996))] = [(1, Value.ref (r' 0)), (0, Value.ref (r' 999996))]
    rw [hr' 999996 (by omega), hr' 0 (by omega)]
  intro r3 h3
  have C3 := C2.move h3
  refine wl_wide (k := 201) (j := 41000) (by omega) (by decide) ?_
  refine wl_go C3 (by decide) (by decide) 1 (pc' := 12) (l' := [(1, .ref 0), (0, .ref 999996)]) (st' := [.ref 89, .ref 89]) (S' := S1 ++ [.inr (12, ai_F 12)]) (V' := ai_zf V1 S1.length) rfl ?_
  have kl : (S1 ++ [(.inr (12, ai_F 12) : va_E)]).length = 90 := by rw [List.length_append, k2]; rfl
  refine wl_callI (d := 20) (o := 89) (as := []) (rest := [.ref 89]) C3 rfl ⟨4000, k3⟩ rfl (by decide +kernel) rfl (by decide) (by rw [k4]; omega) (by omega) (fun r' hr' => ?_) (fun r' hr' => ?_) ?_
  · show [Value.ref (r3 89)] = [Value.ref (r' 89)]
    rw [hr'.2 89 (Or.inl (by omega))]
  · show [(1, Value.ref (r3 0)), (0, Value.ref (r3 999996))] = [(1, Value.ref (r' 0)), (0, Value.ref (r' 999996))]
    rw [hr'.2 999996 (Or.inr (by decide)), hr'.2 0 (Or.inl (by omega))]
  intro r4 h4
  have C4 := C3.move h4
  refine wl_wide (k := 400) (j := 80000) (by rw [k4]; omega) (by omega) ?_
  refine wl_go C4 (by decide) (by decide) 2 (pc' := 17) (l' := [(2, .ref 89), (1, .ref 0), (0, .ref 999996)]) (st' := [.int 1]) (S' := S2) (V' := V2) rfl ?_
  refine wl_newA (b := 1) C4 (i := 1) rfl (st' := [.ref 118]) (S' := S2 ++ [.inl (1, 1, .inr (.inl (fun _ => 0)))]) (V' := ai_z V2 118) (by rw [ai_newA, k8, k4]; rfl) (by omega) (by omega) (by decide) (fun r' hr' => ?_) ?_
  · show [(2, Value.ref (r4 89)), (1, Value.ref (r4 0)), (0, Value.ref (r4 999996))] = [(2, Value.ref (r' 89)), (1, Value.ref (r' 0)), (0, Value.ref (r' 999996))]
    rw [hr' 999996 (by omega), hr' 0 (by omega), hr' 89 (by omega)]
  intro r5 h5
  have C5 := C4.move h5
  refine wl_wide (k := 500) (j := 90000) (by omega) (by decide) ?_
  refine wl_go C5 (by decide) (by decide) 3 (pc' := 23) (l' := [(4, .int 0), (3, .ref 118), (2, .ref 89), (1, .ref 0), (0, .ref 999996)]) (st' := []) (S' := S2 ++ [.inl (1, 1, .inr (.inl (fun _ => 0)))]) (V' := ai_z V2 118) rfl ?_
  refine wl_sub [4, 3, 2, 1, 0] (lc := [(0, .ref 999996), (1, .ref 0), (2, .ref 89), (3, .ref 118), (4, .int 0)]) rfl ?_
  refine wl_same k5 ?_
  obtain ⟨hI, hg⟩ := inv0 k6
  have := lw_loop (e := e) (below := below) (D := D) (E := E) hx hb hr hlocks hL (fun q h => h) 512 0 500 90000 r5 [] (Vc (ai_z V2 118)) (by omega) (by omega) (by omega) C5 hI (Or.inl ⟨rfl, hg⟩)
  rw [List.append_nil] at this
  exact this
