/-! ===== rows that make cells ===== -/
theorem ai_hty {b : Nat} (h : b < 4) : newarray.typeOf (ai_ac b) = ai_aty b := by
  match b, h with
  | 0, _ => rfl
  | 1, _ => rfl
  | 2, _ => rfl
  | 3, _ => rfl
theorem ai_hcb {b n : Nat} (h : b < 4) (hn : n ≤ 100000) : n * componentBytes (ai_aty b) ≤ 536870912 := by
  have h8 : componentBytes (ai_aty b) ≤ 8 := by
    match b, h with
    | 0, _ => decide
    | 1, _ => decide
    | 2, _ => decide
    | 3, _ => decide
  exact Nat.le_trans (Nat.mul_le_mul hn h8) (by decide)
theorem ai_hcell {b n : Nat} (h : b < 4) (cA : ClassId) : vp_cell cA (n, if b = 1 then .inr (.inl (fun _ => 0)) else .inl (fun _ => 0)) = arrV cA n (fun _ => defaultValue (ai_aty b)) := by
  match b, h with
  | 0, _ => rfl
  | 1, _ => rfl
  | 2, _ => rfl
  | 3, _ => rfl
theorem ai_tys_at {E : Nat → ClassId} {b : Nat} (h : b < 4) : (ai_tys E)[b]? = some (E b, ai_aty b) := by
  match b, h with
  | 0, _ => rfl
  | 1, _ => rfl
  | 2, _ => rfl
  | 3, _ => rfl
theorem ai_RA_prim {s : State} {cA : ClassId} {t : FieldType} (ht : ∀ C, t ≠ .object C) (h : va_RA s cA t) : s.vm.findClass ("[" ++ t.toString) = some cA := by
  cases t with
  | object C => exact absurd rfl (ht C)
  | _ => exact h
theorem ai_aty_no {b : Nat} (h : b < 4) (C : String) : ai_aty b ≠ .object C := by
  match b, h with
  | 0, _ => exact fun q => by cases q
  | 1, _ => exact fun q => by cases q
  | 2, _ => exact fun q => by cases q
  | 3, _ => exact fun q => by cases q
theorem ai_RA_inj {s : State} {b : Nat} {cA cB : ClassId} (h : b < 4) (h1 : va_RA s cA (ai_aty b)) (h2 : va_RA s cB (ai_aty b)) : cA = cB := by
  have hn : ∀ C, ai_aty b ≠ .object C := ai_aty_no h
  exact Option.some.inj ((ai_RA_prim hn h1).symm.trans (ai_RA_prim hn h2))
section AIZ
variable {p : Program} {L : Launch} {e : Env} {R : Room} {s : State} {m : MethodId} {args : Array Value} {below : List Frame} {meth : Method} {c : Code} {H : Heap} {locs : List Loc} {cells slots : Nat} {Q : State → Prop}
variable {own : String} {cc : ByteArray} {ret : Option FieldType} {ini : Bool} {nL pc nx op a b : Nat} {x : Int32} {ts : List (Int32 × Nat)} {l l' : ai_L} {st st' : List Value} {S S' : ai_S} {V V' : ai_V} {D : va_G} {E : Nat → ClassId} {r : Nat → Nat} {A : Nat → Prop} {ls : Array Slot}
/-- behind a row that makes a cell -/
abbrev ai_GoN (p : Program) (L : Launch) (e : Env) (R : Room) (s : State) (m : MethodId) (args : Array Value) (below : List Frame) (meth : Method) (c : Code) (cells slots : Nat) (Q : State → Prop) (nL : Nat) (D : va_G) (E : Nat → ClassId) (r : Nat → Nat) (A : Nat → Prop) (nx n : Nat) (l : ai_L) (st : List Value) (S : ai_S) (V : ai_V) : Prop :=
  ∀ (r' : Nat → Nat), (∀ q, q ≠ n → r' q = r q) → ai_Go p L e R s m args below meth c cells slots Q nL D E r' A nx l st S V
def ai_es : va_E → Nat
  | .inr q => q.2.length
  | .inl q => q.2.1
def ai_dv : Value → Value
  | .int _ => .int 0
  | .long _ => .long 0
  | _ => .null
def ai_ph : Value → Bool
  | .int _ => true
  | .long _ => true
  | .null => true
  | .double _ => true
  | _ => false
theorem kf_chk : ∀ b, b < 13 → (ai_F b).length = (ai_kc b).2.2 ∧ ∀ j, j < (ai_kc b).2.2 → defaultValue (ai_kt b j) = ai_dv ((ai_F b).getD j .null) ∧ ai_ph ((ai_F b).getD j .null) = true := by decide +kernel
theorem ai_zf_fv {V : ai_V} {o k : Nat} {v : Value} {r : Nat → Nat} (h : ai_ph v = true) : ai_cv r (ai_fv (ai_zf V o) o k v) = ai_dv v := by
  cases v <;> simp [ai_ph, ai_fv, ai_zf, gi, gj, gr, ai_cv, ai_dv, va_rf] at h ⊢
theorem ai_newO_ok (F : CallFix p m c cc nL s args GW own) (hok : ai_okb own cc ret nL ini (pc, nx, 65, a, b, x, ts) = true) (he : ai_newO b (ai_F b) l st S V = some (l', st', S', V')) (hW : ai_Wd D E r A s H locs S V) (hA : ∀ q, s.heap.size ≤ q → A q) (hl : lv_has ls nL (ai_lm r l)) (hcells : cells + 1 ≤ R.cells) (hslots : slots + (ai_F b).length ≤ R.slots)
    (kk : ai_GoN p L e R s m args below meth c (cells + 1) (slots + (ai_F b).length) Q nL D E r A nx S.length l' st' S' V') : W p L e R s m args below meth c H locs cells slots Q (F0 m pc ls (st.map (ai_cv r))) := by
  obtain ⟨hx, hb, -, hown, hts⟩ := F
  simp only [ai_okb, Bool.and_eq_true, decide_eq_true_eq] at hok
  obtain ⟨⟨⟨hd, hw⟩, hb13⟩, rfl⟩ := hok
  have hwm := ai_wd_spec hw
  unfold ai_newO at he
  cases hf : ai_free l st S V with
  | false => rw [hf] at he; cases he
  | true =>
    rw [hf] at he
    cases he
    simp only [ai_free, ai_fs, Bool.and_eq_true] at hf
    obtain ⟨hK, hO, hP, hD, hSt⟩ := hW
    obtain ⟨hlen, hdef⟩ := kf_chk b hb13
    have hslots' : slots + (ai_kc b).2.2 ≤ R.slots := by rw [← hlen]; exact hslots
    refine va_new (ci := b) (T := (ai_kc b).2.1) (N := (ai_kc b).2.2) (C := (ai_kc b).1) (fs := (ai_F b).mapIdx (fun k v => ai_dv v)) hx hb hts (kw_all hb13) (ai_kt b) (ky_all hb13) hown (hts _ (hwm _ (by simp))) (hts _ (hwm _ (by simp))) (hts _ (hwm _ (by simp))) hK hP hD hSt hA (kcl_get hb13) (fun j hj => ?_) hcells hslots' hd (fun q H1 hP1 hD1 hS1 => ?_)
    · rw [(hdef j hj).1]
      have hj2 : j < (ai_F b).length := by omega
      simp only [vp_V, List.getD_eq_getElem?_getD, List.getElem?_mapIdx, List.getElem?_eq_getElem hj2, Option.map_some, Option.getD_some]
    · have hnew := ai_w_new (E := E) (r := r) (V := V) (V' := ai_zf V S.length) (S := S) (q := q) (e := .inr (b, ai_F b)) (x := .inr (b, (ai_F b).mapIdx (fun k v => ai_dv v))) hf.1.2 (fun j d hj => ai_ce_row (V := V) (V' := ai_zf V S.length) (j := j) (fun k => by simp [gi, ai_zf, Nat.ne_of_lt hj]) (fun k => by simp [gj, ai_zf, Nat.ne_of_lt hj]) rfl rfl (fun k => by simp [gr, ai_zf, Nat.ne_of_lt hj]) d) (by
        show (Sum.inr (b, _) : va_E) = _
        congr 2
        apply List.ext_getElem?
        intro j
        rw [List.getElem?_mapIdx, List.getElem?_mapIdx]
        cases hj : (ai_F b)[j]? with
        | none => rfl
        | some v =>
          have hj2 : j < (ai_F b).length := (List.getElem?_eq_some_iff.mp hj).1
          have hp := (hdef j (by omega)).2
          rw [List.getD_eq_getElem?_getD, hj, Option.getD_some] at hp
          rw [Option.map_some, Option.map_some, ai_zf_fv hp])
      rw [← hnew] at hP1 hD1
      have k2 := kk (fun a => if a = S.length then q else r a) (fun z hz => if_neg hz) H1 locs ls ⟨hK, hO, hP1, hD1, hS1⟩ (by rw [ai_fs_lm hf.1.1.1]; exact hl)
      rw [List.map_cons, ai_fs_st hf.1.1.2] at k2
      simp only [ai_cv, if_pos] at k2
      rw [hlen] at k2
      exact k2
theorem ai_newA_ok (F : CallFix p m c cc nL s args GW own) (hok : ai_okb own cc ret nL ini (pc, nx, 66, a, b, x, ts) = true) {i : Int32} (he : ai_newA b l (.int i :: st) S V = some (l', st', S', V')) (hW : ai_Wd D E r A s H locs S V) (hA : ∀ q, s.heap.size ≤ q → A q) (hl : lv_has ls nL (ai_lm r l)) (hcells : cells + 1 ≤ R.cells) (hslots : slots + i.toNatClampNeg ≤ R.slots)
    (kk : ai_GoN p L e R s m args below meth c (cells + 1) (slots + i.toNatClampNeg) Q nL D E r A nx S.length l' st' S' V') : W p L e R s m args below meth c H locs cells slots Q (F0 m pc ls ((Value.int i :: st).map (ai_cv r))) := by
  obtain ⟨hx, hb, -, hown, hts⟩ := F
  simp only [ai_okb, Bool.and_eq_true, decide_eq_true_eq] at hok
  obtain ⟨⟨⟨hd, hw⟩, hb4⟩, rfl⟩ := hok
  have hwm := ai_wd_spec hw
  simp only [ai_newA] at he
  split at he
  · rename_i hi
    cases hf : ai_free l st S V with
    | false => rw [hf] at he; cases he
    | true =>
      rw [hf] at he
      cases he
      simp only [ai_free, ai_fs, Bool.and_eq_true] at hf
      obtain ⟨hK, hO, hP, hD, hSt⟩ := hW
      have hi2 : i.toNatClampNeg ≤ 100000 := by
        have h1 := hi.1
        have h2 := hi.2
        rw [Int32.le_iff_toInt_le] at h1 h2
        have h3 : i.toInt ≤ 100000 := h2
        have h4 : 0 ≤ i.toInt := h1
        rw [Int32.toNatClampNeg]
        omega
      have hty := ai_hty hb4
      have hcb := ai_hcb hb4 hi2
      refine va_newa (atype := ai_ac b) (ty := ai_aty b) (a0 := (i.toNatClampNeg, if b = 1 then .inr (.inl (fun _ => 0)) else .inl (fun _ => 0))) hx hb (by rw [hty]; exact hts _ (hwm _ (by simp))) hty hK hP hD hSt hA (fun cA => ?_) (fa9_nlt hi.1) rfl hcb hcells hslots hd (fun q cA H1 hK1 hP1 hD1 hS1 => ?_)
      · exact ai_hcell hb4 cA
      · have hcA : cA = E b := ai_RA_inj hb4 (hK1.2 5 (cA, ai_aty b) rfl).2 (hK.2 b (E b, ai_aty b) (ai_tys_at hb4)).2
        subst hcA
        have hnew := ai_w_new (E := E) (r := r) (V := V) (V' := ai_z V S.length) (S := S) (q := q) (e := .inl (b, i.toNatClampNeg, if b = 1 then .inr (.inl (fun _ => 0)) else .inl (fun _ => 0))) (x := .inl (E b, i.toNatClampNeg, if b = 1 then .inr (.inl (fun _ => 0)) else .inl (fun _ => 0))) hf.1.2 (fun j d hj => ai_ce_row (V := V) (V' := ai_z V S.length) (j := j) (fun k => rfl) (fun k => rfl) (by simp [ai_z, Nat.ne_of_lt hj]) (by simp [ai_z, Nat.ne_of_lt hj]) (fun k => rfl) d) (by
          by_cases h1 : b = 1
          · simp only [h1, if_pos, ai_ce, ai_z]
          · simp only [h1, if_false, ai_ce, ai_z, if_pos])
        rw [← hnew] at hP1 hD1
        have k2 := kk (fun a => if a = S.length then q else r a) (fun z hz => if_neg hz) H1 locs ls ⟨hK, hO, hP1, hD1, hS1⟩ (by rw [ai_fs_lm hf.1.1.1]; exact hl)
        rw [List.map_cons, ai_fs_st hf.1.1.2] at k2
        simp only [ai_cv, if_pos] at k2
        exact k2
  · cases he
theorem ai_newR_ok (F : CallFix p m c cc nL s args GW own) (hok : ai_okb own cc ret nL ini (pc, nx, 67, a, b, x, ts) = true) {i : Int32} (he : ai_newR 4 l (.int i :: st) S V = some (l', st', S', V')) (hW : ai_Wd D E r A s H locs S V) (hA : ∀ q, s.heap.size ≤ q → A q) (hl : lv_has ls nL (ai_lm r l)) (hcells : cells + 1 ≤ R.cells) (hslots : slots + i.toNatClampNeg ≤ R.slots)
    (kk : ai_GoN p L e R s m args below meth c (cells + 1) (slots + i.toNatClampNeg) Q nL D E r A nx S.length l' st' S' V') : W p L e R s m args below meth c H locs cells slots Q (F0 m pc ls ((Value.int i :: st).map (ai_cv r))) := by
  obtain ⟨hx, hb, -, hown, hts⟩ := F
  simp only [ai_okb, Bool.and_eq_true, decide_eq_true_eq] at hok
  obtain ⟨⟨hd, hw⟩, rfl⟩ := hok
  have hwm := ai_wd_spec hw
  simp only [ai_newR] at he
  split at he
  · rename_i hi
    cases hf : ai_free l st S V with
    | false => rw [hf] at he; cases he
    | true =>
      rw [hf] at he
      cases he
      simp only [ai_free, ai_fs, Bool.and_eq_true] at hf
      obtain ⟨hK, hO, hP, hD, hSt⟩ := hW
      have hi2 : i.toNatClampNeg ≤ 100000 := by
        have h1 := hi.1
        have h2 := hi.2
        rw [Int32.le_iff_toInt_le] at h1 h2
        have h3 : i.toInt ≤ 100000 := h2
        have h4 : 0 ≤ i.toInt := h1
        rw [Int32.toNatClampNeg]
        omega
      refine va_newq (C := "RentByTheWheel$State") hx hb hown (hts _ (hwm _ (by simp))) hO hK hP hD hSt hA (fa9_nlt hi.1) rfl (by omega) hcells hslots hd (fun q cA H1 hK1 hP1 hD1 hS1 => ?_)
      have hcA : cA = E 4 := by
        obtain ⟨k1, c1, -, -, -, h1⟩ : va_RA s cA (.object "RentByTheWheel$State") := (hK1.2 5 (cA, .object "RentByTheWheel$State") rfl).2
        obtain ⟨k2, c2, -, -, -, h2⟩ : va_RA s (E 4) (.object "RentByTheWheel$State") := (hK.2 4 (E 4, .object "RentByTheWheel$State") rfl).2
        exact Option.some.inj (h1.symm.trans h2)
      subst hcA
      have hnew := ai_w_new (E := E) (r := r) (V := V) (V' := V) (S := S) (q := q) (e := .inl (4, i.toNatClampNeg, .inr (.inr (.inr (.inr (fun _ => none)))))) (x := .inl (E 4, i.toNatClampNeg, .inr (.inr (.inr (.inr (fun _ => none)))))) hf.1.2 (fun j d hj => rfl) (by
        simp only [ai_ce, Option.map_none, ite_self])
      rw [← hnew] at hP1 hD1
      have k2 := kk (fun a => if a = S.length then q else r a) (fun z hz => if_neg hz) H1 locs ls ⟨hK, hO, hP1, hD1, hS1⟩ (by rw [ai_fs_lm hf.1.1.1]; exact hl)
      rw [List.map_cons, ai_fs_st hf.1.1.2] at k2
      simp only [ai_cv, if_pos] at k2
      exact k2
  · cases he
end AIZ
