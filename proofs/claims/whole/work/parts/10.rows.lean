/-! ===== every row that neither branches, calls nor makes cells ===== -/
section AIY
variable {p : Program} {L : Launch} {e : Env} {R : Room} {s : State} {m : MethodId} {args : Array Value} {below : List Frame} {meth : Method} {c : Code} {H : Heap} {locs : List Loc} {cells slots : Nat} {Q : State → Prop}
variable {own : String} {cc : ByteArray} {ret : Option FieldType} {ini : Bool} {nL pc nx op a b : Nat} {x : Int32} {ts : List (Int32 × Nat)} {l l' : ai_L} {st st' : List Value} {S S' : ai_S} {V V' : ai_V} {D : va_G} {E : Nat → ClassId} {r : Nat → Nat} {A : Nat → Prop} {ls : Array Slot}
theorem ai_fin4 {k : Nat} (h : k < 4) : ((Fin.ofNat 4 k : Fin 4) : Nat) = k := Nat.mod_eq_of_lt h
theorem ai_load_ok (F : CallFix p m c cc nL s args GW own) {P : Value → Bool} {i0 : Fin 4 → Instr} {i1 : Nat → Instr} (hok : ai_ld_ok cc pc nx a b nL i0 i1 = true) (he : ai_ld P a l st S V = some (l', st', S', V')) (hW : ai_Wd D E r A s H locs S V) (hl : lv_has ls nL (ai_lm r l))
    (k0 : ∀ v : Value, P v = true → ls[a]? = some (.val (ai_cv r v)) → ∀ k : Fin 4, (k : Nat) = a → decode cc pc = .ok (i0 k, 1) → W p L e R s m args below meth c H locs cells slots Q (F0 m (pc + 1) ls (ai_cv r v :: st.map (ai_cv r))) → W p L e R s m args below meth c H locs cells slots Q (F0 m pc ls (st.map (ai_cv r))))
    (k1 : ∀ v : Value, P v = true → ls[a]? = some (.val (ai_cv r v)) → decode cc pc = .ok (i1 a, 2) → W p L e R s m args below meth c H locs cells slots Q (F0 m (pc + 2) ls (ai_cv r v :: st.map (ai_cv r))) → W p L e R s m args below meth c H locs cells slots Q (F0 m pc ls (st.map (ai_cv r))))
    (kk : ai_Go p L e R s m args below meth c cells slots Q nL D E r A nx l' st' S' V') : W p L e R s m args below meth c H locs cells slots Q (F0 m pc ls (st.map (ai_cv r))) := by
  unfold ai_ld at he
  split at he
  · rename_i v hv
    cases hp : P v with
    | false => rw [hp] at he; cases he
    | true =>
      rw [hp] at he
      cases he
      have h1 := ai_lm_at hl hv
      have k2 := kk H locs ls hW hl
      unfold ai_ld_ok at hok
      split at hok
      · simp only [Bool.and_eq_true, decide_eq_true_eq] at hok
        obtain ⟨⟨hd, ha⟩, rfl⟩ := hok
        exact k0 v hp h1 _ (ai_fin4 ha) hd k2
      · simp only [Bool.and_eq_true, decide_eq_true_eq] at hok
        obtain ⟨hd, rfl⟩ := hok
        exact k1 v hp h1 hd k2
  · cases he
theorem ai_store_ok (F : CallFix p m c cc nL s args GW own) {P : Value → Bool} {w : ai_L → Nat → Value → ai_L} {i0 : Fin 4 → Instr} {i1 : Nat → Instr} (hok : ai_ld_ok cc pc nx a b nL i0 i1 = true) (he : ai_str P w a l st S V = some (l', st', S', V')) (hW : ai_Wd D E r A s H locs S V) (hl : lv_has ls nL (ai_lm r l))
    (k0 : ∀ (v : Value) (st0 : List Value), P v = true → ∀ k : Fin 4, (k : Nat) = a → decode cc pc = .ok (i0 k, 1) → (∀ ls' : Array Slot, lv_has ls' nL (ai_lm r (w l a v)) → W p L e R s m args below meth c H locs cells slots Q (F0 m (pc + 1) ls' (st0.map (ai_cv r)))) → W p L e R s m args below meth c H locs cells slots Q (F0 m pc ls (ai_cv r v :: st0.map (ai_cv r))))
    (k1 : ∀ (v : Value) (st0 : List Value), P v = true → decode cc pc = .ok (i1 a, 2) → (∀ ls' : Array Slot, lv_has ls' nL (ai_lm r (w l a v)) → W p L e R s m args below meth c H locs cells slots Q (F0 m (pc + 2) ls' (st0.map (ai_cv r)))) → W p L e R s m args below meth c H locs cells slots Q (F0 m pc ls (ai_cv r v :: st0.map (ai_cv r))))
    (kk : ai_Go p L e R s m args below meth c cells slots Q nL D E r A nx l' st' S' V') : W p L e R s m args below meth c H locs cells slots Q (F0 m pc ls (st.map (ai_cv r))) := by
  unfold ai_str at he
  split at he
  · rename_i v st0
    cases hp : P v with
    | false => rw [hp] at he; cases he
    | true =>
      rw [hp] at he
      cases he
      unfold ai_ld_ok at hok
      split at hok
      · simp only [Bool.and_eq_true, decide_eq_true_eq] at hok
        obtain ⟨⟨hd, ha⟩, rfl⟩ := hok
        exact k0 v _ hp _ (ai_fin4 ha) hd (fun ls' hl' => kk H locs ls' hW hl')
      · simp only [Bool.and_eq_true, decide_eq_true_eq] at hok
        obtain ⟨hd, rfl⟩ := hok
        exact k1 v _ hp hd (fun ls' hl' => kk H locs ls' hW hl')
  · cases he
theorem ai_arith_ok (F : CallFix p m c cc nL s args GW own) (hok : ai_okb own cc ret nL ini (pc, nx, 20, a, b, x, ts) = true) (he : ai_arith b l st S V = some (l', st', S', V')) (hW : ai_Wd D E r A s H locs S V) (hl : lv_has ls nL (ai_lm r l))
    (kk : ai_Go p L e R s m args below meth c cells slots Q nL D E r A nx l' st' S' V') : W p L e R s m args below meth c H locs cells slots Q (F0 m pc ls (st.map (ai_cv r))) := by
  obtain ⟨hx, hb, -, hown, hts⟩ := F
  simp only [ai_okb, Bool.and_eq_true, decide_eq_true_eq] at hok
  obtain ⟨hd, rfl⟩ := hok
  unfold ai_arith at he
  split at he
  · rename_i y x st0
    unfold ai_bin at he
    split at he <;> simp only [Option.bind_some, decide_eq_true_eq, Bool.false_eq_true] at he hd
    · cases he; exact lv_iadd hx hb hd (kk H locs ls hW hl)
    · cases he; exact lv_isub hx hb hd (kk H locs ls hW hl)
    · cases he; exact lv_imul hx hb hd (kk H locs ls hW hl)
    · cases he; exact lv_iand hx hb hd (kk H locs ls hW hl)
    · cases he; exact lv_ior hx hb hd (kk H locs ls hW hl)
    · cases he; exact lv_ixor hx hb hd (kk H locs ls hW hl)
    · cases he; exact lv_ishl hx hb hd (kk H locs ls hW hl)
    · cases he; exact lv_ishr hx hb hd (kk H locs ls hW hl)
    · cases he; exact lv_iushr hx hb hd rfl (kk H locs ls hW hl)
    · split at he
      · cases he
      · rename_i h0
        cases he; exact lv_idiv hx hb hd h0 (kk H locs ls hW hl)
    · split at he
      · cases he
      · rename_i h0
        cases he; exact lv_irem hx hb hd h0 (kk H locs ls hW hl)
  · cases he
theorem ai_arith1_ok (F : CallFix p m c cc nL s args GW own) (hok : ai_okb own cc ret nL ini (pc, nx, 31, a, b, x, ts) = true) (he : ai_arith1 b l st S V = some (l', st', S', V')) (hW : ai_Wd D E r A s H locs S V) (hl : lv_has ls nL (ai_lm r l))
    (kk : ai_Go p L e R s m args below meth c cells slots Q nL D E r A nx l' st' S' V') : W p L e R s m args below meth c H locs cells slots Q (F0 m pc ls (st.map (ai_cv r))) := by
  obtain ⟨hx, hb, -, hown, hts⟩ := F
  simp only [ai_okb, Bool.and_eq_true, decide_eq_true_eq] at hok
  obtain ⟨hd, rfl⟩ := hok
  unfold ai_arith1 at he
  split at he
  · rename_i x st0
    unfold ai_un at he
    split at he <;> simp only [Option.bind_some, decide_eq_true_eq, Bool.false_eq_true] at he hd
    · cases he; exact lv_ineg hx hb hd (kk H locs ls hW hl)
    · cases he; exact lv_i2b hx hb hd rfl (kk H locs ls hW hl)
    · cases he; exact lv_i2s hx hb hd rfl (kk H locs ls hW hl)
    · cases he; exact lv_i2c hx hb hd rfl (kk H locs ls hW hl)
    · cases he; exact lv_i2l hx hb hd rfl (kk H locs ls hW hl)
  · cases he
theorem ai_arithL_ok (F : CallFix p m c cc nL s args GW own) (hok : ai_okb own cc ret nL ini (pc, nx, 35, a, b, x, ts) = true) (he : ai_arithL b l st S V = some (l', st', S', V')) (hW : ai_Wd D E r A s H locs S V) (hl : lv_has ls nL (ai_lm r l))
    (kk : ai_Go p L e R s m args below meth c cells slots Q nL D E r A nx l' st' S' V') : W p L e R s m args below meth c H locs cells slots Q (F0 m pc ls (st.map (ai_cv r))) := by
  obtain ⟨hx, hb, -, hown, hts⟩ := F
  simp only [ai_okb, Bool.and_eq_true, decide_eq_true_eq] at hok
  obtain ⟨hd, rfl⟩ := hok
  unfold ai_arithL at he
  split at he
  · rename_i y x st0
    unfold ai_bil at he
    split at he <;> simp only [Option.bind_some, decide_eq_true_eq, Bool.false_eq_true] at he hd
    · cases he; exact lv_ladd hx hb hd (kk H locs ls hW hl)
    · cases he; exact lv_lsub hx hb hd (kk H locs ls hW hl)
    · cases he; exact lv_lmul hx hb hd (kk H locs ls hW hl)
    · split at he
      · cases he
      · rename_i h0
        cases he; exact lv_ldiv hx hb hd h0 (kk H locs ls hW hl)
    · split at he
      · cases he
      · rename_i h0
        cases he; exact lv_lrem hx hb hd h0 (kk H locs ls hW hl)
    · cases he; exact W.lcmp hx hb hd (kk H locs ls hW hl)
  · cases he
theorem ai_cat1_spec {v : Value} (h : ai_cat1 v = true) (r : Nat → Nat) : (ai_cv r v).category = 1 := by
  cases v <;> first | rfl | cases h
theorem ai_stk_ok (F : CallFix p m c cc nL s args GW own) (hok : ai_okb own cc ret nL ini (pc, nx, 41, a, b, x, ts) = true) (he : ai_stk b l st S V = some (l', st', S', V')) (hW : ai_Wd D E r A s H locs S V) (hl : lv_has ls nL (ai_lm r l))
    (kk : ai_Go p L e R s m args below meth c cells slots Q nL D E r A nx l' st' S' V') : W p L e R s m args below meth c H locs cells slots Q (F0 m pc ls (st.map (ai_cv r))) := by
  obtain ⟨hx, hb, -, hown, hts⟩ := F
  simp only [ai_okb, Bool.and_eq_true, decide_eq_true_eq] at hok
  obtain ⟨hd, rfl⟩ := hok
  unfold ai_stk at he
  split at he <;> (try simp only [decide_eq_true_eq, Bool.false_eq_true] at hd)
  · cases he; exact lv_l2i hx hb hd rfl (kk H locs ls hW hl)
  · rename_i v st0
    cases hp : ai_cat1 v with
    | false => rw [hp] at he; cases he
    | true =>
      rw [hp] at he
      cases he
      exact lv_dup hx hb hd (ai_cat1_spec hp r) (kk H locs ls hW hl)
  · rename_i v st0
    cases hp : ai_cat1 v with
    | false => rw [hp] at he; cases he
    | true =>
      rw [hp] at he
      cases he
      exact lv_pop hx hb hd (ai_cat1_spec hp r) (kk H locs ls hW hl)
  · rename_i v w st0
    cases hp : (ai_cat1 v && ai_cat1 w) with
    | false => rw [hp] at he; cases he
    | true =>
      rw [hp] at he
      cases he
      rw [Bool.and_eq_true] at hp
      exact lv_dup_x1 hx hb hd (ai_cat1_spec hp.1 r) (ai_cat1_spec hp.2 r) (kk H locs ls hW hl)
  · rename_i v w st0
    cases hp : (ai_cat1 v && ai_cat1 w) with
    | false => rw [hp] at he; cases he
    | true =>
      rw [hp] at he
      cases he
      rw [Bool.and_eq_true] at hp
      exact lv_dup2_11 hx hb hd (ai_cat1_spec hp.1 r) (ai_cat1_spec hp.2 r) (kk H locs ls hW hl)
  · cases he
theorem ai_isI_spec {v : Value} (h : ai_isI v = true) : ∃ x, v = .int x := by cases v <;> first | exact ⟨_, rfl⟩ | cases h
theorem ai_isJ_spec {v : Value} (h : ai_isJ v = true) : ∃ x, v = .long x := by cases v <;> first | exact ⟨_, rfl⟩ | cases h
theorem ai_isR_spec {v : Value} (h : ai_isR v = true) : ∃ x, v = .ref x := by cases v <;> first | exact ⟨_, rfl⟩ | cases h
theorem ai_push_ok (F : CallFix p m c cc nL s args GW own) (hok : ai_okb own cc ret nL ini (pc, nx, 0, a, b, x, ts) = true) (hW : ai_Wd D E r A s H locs S V) (hl : lv_has ls nL (ai_lm r l))
    (kk : ai_Go p L e R s m args below meth c cells slots Q nL D E r A nx l (.int x :: st) S V) : W p L e R s m args below meth c H locs cells slots Q (F0 m pc ls (st.map (ai_cv r))) := by
  obtain ⟨hx, hb, -, hown, hts⟩ := F
  have k2 := kk H locs ls hW hl
  simp only [ai_okb] at hok
  split at hok <;> simp only [Bool.and_eq_true, decide_eq_true_eq] at hok
  · obtain ⟨⟨hd, hv⟩, rfl⟩ := hok
    exact lv_iconst hx hb hd hv k2
  · obtain ⟨⟨hd, hv⟩, rfl⟩ := hok
    exact lv_bipush hx hb hd hv k2
  · obtain ⟨⟨hd, hv⟩, rfl⟩ := hok
    exact lv_sipush hx hb hd hv k2
  · obtain ⟨⟨hd, hv⟩, rfl⟩ := hok
    exact lv_ldc hx hb hown (hts _ (ai_wd_spec hv _ List.mem_cons_self)) hd k2
  · obtain ⟨⟨hd, hv⟩, rfl⟩ := hok
    exact lv_ldcw hx hb hown (hts _ (ai_wd_spec hv _ List.mem_cons_self)) hd k2
theorem ai_pushL_ok (F : CallFix p m c cc nL s args GW own) (hok : ai_okb own cc ret nL ini (pc, nx, 5, a, b, x, ts) = true) (hW : ai_Wd D E r A s H locs S V) (hl : lv_has ls nL (ai_lm r l))
    (kk : ai_Go p L e R s m args below meth c cells slots Q nL D E r A nx l (.long (Int64.ofNat b) :: st) S V) : W p L e R s m args below meth c H locs cells slots Q (F0 m pc ls (st.map (ai_cv r))) := by
  obtain ⟨hx, hb, -, hown, hts⟩ := F
  have k2 := kk H locs ls hW hl
  simp only [ai_okb] at hok
  split at hok <;> simp only [Bool.and_eq_true, decide_eq_true_eq] at hok
  · obtain ⟨⟨hd, hv⟩, rfl⟩ := hok
    exact lv_lconst (v := Int64.ofNat b) hx hb hd (by rw [show ((Fin.ofNat 2 b : Fin 2) : Nat) = b from Nat.mod_eq_of_lt hv]) k2
  · obtain ⟨⟨hd, hv⟩, rfl⟩ := hok
    exact lv_ldc2 hx hb hown (hts _ (ai_wd_spec hv _ List.mem_cons_self)) hd k2
theorem ai_inc_ok (F : CallFix p m c cc nL s args GW own) (hok : ai_okb own cc ret nL ini (pc, nx, 19, a, b, x, ts) = true) (he : ai_inc a x l st S V = some (l', st', S', V')) (hW : ai_Wd D E r A s H locs S V) (hl : lv_has ls nL (ai_lm r l))
    (kk : ai_Go p L e R s m args below meth c cells slots Q nL D E r A nx l' st' S' V') : W p L e R s m args below meth c H locs cells slots Q (F0 m pc ls (st.map (ai_cv r))) := by
  obtain ⟨hx, hb, -, hown, hts⟩ := F
  simp only [ai_okb, Bool.and_eq_true, decide_eq_true_eq] at hok
  obtain ⟨⟨⟨hd, hv⟩, ha⟩, rfl⟩ := hok
  unfold ai_inc at he
  split at he
  · rename_i y hy
    cases he
    obtain ⟨k, hk⟩ := List.getElem?_of_mem (show (a, Value.int y) ∈ ai_lm r l from List.mem_map.mpr ⟨(a, .int y), ai_get_mem hy, rfl⟩)
    exact lv_iinc hx hb hd hl hk (by rw [hv]) ha (ai_lm_st1 r l a (.int (y + x))) (fun ls' hl' => kk H locs ls' hW hl')
  · cases he
end AIY
