/-! ===== every straight row; rows that make cells; branches ===== -/
theorem gw_nat : Cond.native arraycopyName ∈ GW := GW_of (List.mem_of_getElem? (i := 668) (by decide +kernel)) rfl
theorem gw_sta : Cond.static arraycopyName ∈ GW := GW_of (List.mem_of_getElem? (i := 667) (by decide +kernel)) rfl
theorem gw_sys : Cond.initialized "java/lang/System" ∈ GW := GW_of (List.mem_of_getElem? (i := 100) rfl) rfl
theorem gw_oim : Cond.instanceMethod objectInit ∈ GW := GW_of (List.mem_of_getElem? (i := 113) rfl) rfl
theorem gw_oic : Cond.code objectInit ⟨#[0xb1]⟩ 1 none ∈ GW := GW_of (List.mem_of_getElem? (i := 114) rfl) rfl

theorem gm_i1s : Cond.static Lib.Math.min.name ∈ GW := GW_of (ai_wat_in (q := (2, 196)) (by decide +kernel)) rfl
theorem gm_i1c : Cond.code Lib.Math.min.name Lib.Math.min.code 2 (some .int) ∈ GW := GW_of (ai_wat_in (q := (2, 197)) (by decide +kernel)) rfl
theorem gm_i2s : Cond.static Lib.Math.max.name ∈ GW := GW_of (ai_wat_in (q := (3, 50)) (by decide +kernel)) rfl
theorem gm_i2c : Cond.code Lib.Math.max.name Lib.Math.max.code 2 (some .int) ∈ GW := GW_of (ai_wat_in (q := (3, 51)) (by decide +kernel)) rfl
theorem gm_i8s : Cond.static Lib.MathLoose.min_long.x ∈ GW := GW_of (ai_wat_in (q := (8, 34)) (by decide +kernel)) rfl
theorem gm_i8c : Cond.code Lib.MathLoose.min_long.x Lib.MathLoose.min_long.code 4 (some .long) ∈ GW := GW_of (ai_wat_in (q := (8, 35)) (by decide +kernel)) rfl
theorem gm_i10s : Cond.static Lib.MathLoose.max_long.x ∈ GW := GW_of (ai_wat_in (q := (8, 65)) (by decide +kernel)) rfl
theorem gm_i10c : Cond.code Lib.MathLoose.max_long.x Lib.MathLoose.max_long.code 4 (some .long) ∈ GW := GW_of (ai_wat_in (q := (8, 66)) (by decide +kernel)) rfl
theorem gm_ini : Cond.initialized "java/lang/Math" ∈ GW := GW_of (ai_wat_in (q := (1, 15)) (by decide +kernel)) rfl
section AIZ
variable {p : Program} {L : Launch} {e : Env} {R : Room} {s : State} {m : MethodId} {args : Array Value} {below : List Frame} {meth : Method} {c : Code} {H : Heap} {locs : List Loc} {cells slots : Nat} {Q : State → Prop}
variable {own : String} {cc : ByteArray} {ret : Option FieldType} {ini : Bool} {nL pc nx op a b : Nat} {x : Int32} {ts : List (Int32 × Nat)} {l l' : ai_L} {st st' : List Value} {S S' : ai_S} {V V' : ai_V} {D : va_G} {E : Nat → ClassId} {r : Nat → Nat} {A : Nat → Prop} {ls : Array Slot}
theorem ai_cats (r : Nat → Nat) (st : List Value) : ((st.map (ai_cv r)).map fun v => v.category).sum = (st.map fun v => v.category).sum := by
  rw [List.map_map]
  congr 1
  apply List.map_congr_left
  intro v _
  exact ai_cv_cat r v
theorem ai_oi_ok (F : CallFix p m c cc nL s args GW own) (hok : ai_okb own cc ret nL ini (pc, nx, 68, a, b, x, ts) = true) (hfr : 1 ≤ R.frames) (hlo : 200 ≤ R.locals) {o : Nat} (hst : (st.map fun v => v.category).sum ≤ 8) (hW : ai_Wd D E r A s H locs S V) (hl : lv_has ls nL (ai_lm r l))
    (kk : ai_Go p L e R s m args below meth c cells slots Q nL D E r A nx l st S V) : W p L e R s m args below meth c H locs cells slots Q (F0 m pc ls ((Value.ref o :: st).map (ai_cv r))) := by
  obtain ⟨hx, hb, hml, hown, hts⟩ := F
  simp only [ai_okb, Bool.and_eq_true, decide_eq_true_eq] at hok
  obtain ⟨⟨hd, hw⟩, rfl⟩ := hok
  refine W.objInit (rest := st.map (ai_cv r)) hx hb hown (hts _ (ai_wd_spec hw _ List.mem_cons_self)) (hts _ gw_oim) (hts _ gw_oic) rfl (by rw [hml]; exact hl.1) rfl hd hfr ?_ (W.eq rfl (kk H locs ls hW hl))
  rw [ai_cats]
  show 2 * 0 + _ + 12 ≤ R.locals
  omega
theorem ai_m1_ok (F : CallFix p m c cc nL s args GW own) (hok : ai_okb own cc ret nL ini (pc, nx, 1, a, b, x, ts) = true) (hfr : 1 ≤ R.frames) (hlo : 200 ≤ R.locals) (hcl : cells ≤ R.cells) (hsl : slots ≤ R.slots) {u w : Int32} (hst : (st.map fun v => v.category).sum ≤ 8) (hW : ai_Wd D E r A s H locs S V) (hl : lv_has ls nL (ai_lm r l))
    (kk : ai_Go p L e R s m args below meth c cells slots Q nL D E r A nx l (.int (ai_min u w) :: st) S V) : W p L e R s m args below meth c H locs cells slots Q (F0 m pc ls ((Value.int w :: .int u :: st).map (ai_cv r))) := by
  obtain ⟨hx, hb, hml, hown, hts⟩ := F
  simp only [ai_okb, Bool.and_eq_true, decide_eq_true_eq] at hok
  obtain ⟨⟨hd, hw⟩, rfl⟩ := hok
  refine va_mmin (rest := st.map (ai_cv r)) hx hb (hml.trans hl.1.symm) hown (hts _ (ai_wd_spec hw _ List.mem_cons_self)) (hts _ gm_i1s) (hts _ gm_ini) (hts _ gm_i1c) hfr ?_ hcl hsl hd (kk H locs ls hW hl)
  rw [ai_cats]
  omega
theorem ai_m2_ok (F : CallFix p m c cc nL s args GW own) (hok : ai_okb own cc ret nL ini (pc, nx, 2, a, b, x, ts) = true) (hfr : 1 ≤ R.frames) (hlo : 200 ≤ R.locals) (hcl : cells ≤ R.cells) (hsl : slots ≤ R.slots) {u w : Int32} (hst : (st.map fun v => v.category).sum ≤ 8) (hW : ai_Wd D E r A s H locs S V) (hl : lv_has ls nL (ai_lm r l))
    (kk : ai_Go p L e R s m args below meth c cells slots Q nL D E r A nx l (.int (ai_max u w) :: st) S V) : W p L e R s m args below meth c H locs cells slots Q (F0 m pc ls ((Value.int w :: .int u :: st).map (ai_cv r))) := by
  obtain ⟨hx, hb, hml, hown, hts⟩ := F
  simp only [ai_okb, Bool.and_eq_true, decide_eq_true_eq] at hok
  obtain ⟨⟨hd, hw⟩, rfl⟩ := hok
  refine va_mmax (rest := st.map (ai_cv r)) hx hb (hml.trans hl.1.symm) hown (hts _ (ai_wd_spec hw _ List.mem_cons_self)) (hts _ gm_i2s) (hts _ gm_ini) (hts _ gm_i2c) hfr ?_ hcl hsl hd (kk H locs ls hW hl)
  rw [ai_cats]
  omega
theorem ai_m8_ok (F : CallFix p m c cc nL s args GW own) (hok : ai_okb own cc ret nL ini (pc, nx, 8, a, b, x, ts) = true) (hfr : 1 ≤ R.frames) (hlo : 200 ≤ R.locals) (hcl : cells ≤ R.cells) (hsl : slots ≤ R.slots) {u w : Int64} (hst : (st.map fun v => v.category).sum ≤ 8) (hW : ai_Wd D E r A s H locs S V) (hl : lv_has ls nL (ai_lm r l))
    (kk : ai_Go p L e R s m args below meth c cells slots Q nL D E r A nx l (.long (ai_minL u w) :: st) S V) : W p L e R s m args below meth c H locs cells slots Q (F0 m pc ls ((Value.long w :: .long u :: st).map (ai_cv r))) := by
  obtain ⟨hx, hb, hml, hown, hts⟩ := F
  simp only [ai_okb, Bool.and_eq_true, decide_eq_true_eq] at hok
  obtain ⟨⟨hd, hw⟩, rfl⟩ := hok
  refine va_mmin_long (rest := st.map (ai_cv r)) hx hb (hml.trans hl.1.symm) hown (hts _ (ai_wd_spec hw _ List.mem_cons_self)) (hts _ gm_i8s) (hts _ gm_ini) (hts _ gm_i8c) hfr ?_ hcl hsl hd (kk H locs ls hW hl)
  rw [ai_cats]
  omega
theorem ai_m10_ok (F : CallFix p m c cc nL s args GW own) (hok : ai_okb own cc ret nL ini (pc, nx, 10, a, b, x, ts) = true) (hfr : 1 ≤ R.frames) (hlo : 200 ≤ R.locals) (hcl : cells ≤ R.cells) (hsl : slots ≤ R.slots) {u w : Int64} (hst : (st.map fun v => v.category).sum ≤ 8) (hW : ai_Wd D E r A s H locs S V) (hl : lv_has ls nL (ai_lm r l))
    (kk : ai_Go p L e R s m args below meth c cells slots Q nL D E r A nx l (.long (ai_maxL u w) :: st) S V) : W p L e R s m args below meth c H locs cells slots Q (F0 m pc ls ((Value.long w :: .long u :: st).map (ai_cv r))) := by
  obtain ⟨hx, hb, hml, hown, hts⟩ := F
  simp only [ai_okb, Bool.and_eq_true, decide_eq_true_eq] at hok
  obtain ⟨⟨hd, hw⟩, rfl⟩ := hok
  refine va_mmax_long (rest := st.map (ai_cv r)) hx hb (hml.trans hl.1.symm) hown (hts _ (ai_wd_spec hw _ List.mem_cons_self)) (hts _ gm_i10s) (hts _ gm_ini) (hts _ gm_i10c) hfr ?_ hcl hsl hd (kk H locs ls hW hl)
  rw [ai_cats]
  omega
theorem ai_ex_ok (F : CallFix p m c cc nL s args GW own) (hok : ai_okb own cc ret nL ini (pc, nx, op, a, b, x, ts) = true) (hini : ini = true → meth.name = "<init>") (hs : op ≠ 3 ∧ op ≠ 12 ∧ op ≠ 14 ∧ op ≠ 16 ∧ op ≠ 18 ∧ op ≠ 21 ∧ op ≠ 65 ∧ op ≠ 66 ∧ op ≠ 67) (hfr : 1 ≤ R.frames) (hlo : 200 ≤ R.locals) (hcl : cells ≤ R.cells) (hsl : slots ≤ R.slots)
    (he : ai_ex ai_F op a b x l st S V = some (l', st', S', V')) (hW : ai_Wd D E r A s H locs S V) (hl : lv_has ls nL (ai_lm r l))
    (kk : ai_Go p L e R s m args below meth c cells slots Q nL D E r A nx l' st' S' V') : W p L e R s m args below meth c H locs cells slots Q (F0 m pc ls (st.map (ai_cv r))) := by
  have hx := F.1
  have hb := F.2.1
  unfold ai_ex at he
  split at he
  · cases he; exact ai_push_ok F hok hW hl kk
  · unfold ai_mI at he
    split at he
    · rename_i w u st0
      cases hc : Nat.ble (st0.map fun v => v.category).sum 8 with
      | false => rw [hc] at he; cases he
      | true =>
        rw [hc] at he
        cases he
        exact ai_m1_ok F hok hfr hlo hcl hsl (Nat.le_of_ble_eq_true hc) hW hl kk
    · cases he
  · unfold ai_mI at he
    split at he
    · rename_i w u st0
      cases hc : Nat.ble (st0.map fun v => v.category).sum 8 with
      | false => rw [hc] at he; cases he
      | true =>
        rw [hc] at he
        cases he
        exact ai_m2_ok F hok hfr hlo hcl hsl (Nat.le_of_ble_eq_true hc) hW hl kk
    · cases he
  · exact absurd rfl hs.1
  · cases he; exact ai_pushL_ok F hok hW hl kk
  · refine ai_load_ok F hok he hW hl (fun v hv h k hk hd k2 => ?_) (fun v hv h hd k2 => ?_) kk
    · obtain ⟨x, rfl⟩ := ai_isI_spec hv; exact lv_iload_n hx hb hd hk h k2
    · obtain ⟨x, rfl⟩ := ai_isI_spec hv; exact lv_iload hx hb hd h k2
  · unfold ai_mJ at he
    split at he
    · rename_i w u st0
      cases hc : Nat.ble (st0.map fun v => v.category).sum 8 with
      | false => rw [hc] at he; cases he
      | true =>
        rw [hc] at he
        cases he
        exact ai_m8_ok F hok hfr hlo hcl hsl (Nat.le_of_ble_eq_true hc) hW hl kk
    · cases he
  · refine ai_load_ok F hok he hW hl (fun v hv h k hk hd k2 => ?_) (fun v hv h hd k2 => ?_) kk
    · obtain ⟨x, rfl⟩ := ai_isJ_spec hv; exact lv_lload_n hx hb hd hk h k2
    · obtain ⟨x, rfl⟩ := ai_isJ_spec hv; exact lv_lload hx hb hd h k2
  · unfold ai_mJ at he
    split at he
    · rename_i w u st0
      cases hc : Nat.ble (st0.map fun v => v.category).sum 8 with
      | false => rw [hc] at he; cases he
      | true =>
        rw [hc] at he
        cases he
        exact ai_m10_ok F hok hfr hlo hcl hsl (Nat.le_of_ble_eq_true hc) hW hl kk
    · cases he
  · refine ai_load_ok F hok he hW hl (fun v hv h k hk hd k2 => ?_) (fun v hv h hd k2 => ?_) kk
    · obtain ⟨x, rfl⟩ := ai_isR_spec hv; exact lv_aload_n hx hb hd hk h k2
    · obtain ⟨x, rfl⟩ := ai_isR_spec hv; exact lv_aload hx hb hd h k2
  · exact absurd rfl hs.2.1
  · simp only [ai_okb, Bool.and_eq_true, decide_eq_true_eq] at hok
    refine ai_store_ok F hok.1 he hW hl (fun v st0 hv k hk hd k2 => ?_) (fun v st0 hv hd k2 => ?_) kk
    · obtain ⟨x, rfl⟩ := ai_isI_spec hv; exact lv_istore_n hx hb hd hk hl hok.2 (ai_lm_st1 r l _ (.int x)) k2
    · obtain ⟨x, rfl⟩ := ai_isI_spec hv; exact lv_istore hx hb hd hl hok.2 (ai_lm_st1 r l _ (.int x)) k2
  · exact absurd rfl hs.2.2.1
  · simp only [ai_okb, Bool.and_eq_true, decide_eq_true_eq] at hok
    refine ai_store_ok F hok.1 he hW hl (fun v st0 hv k hk hd k2 => ?_) (fun v st0 hv hd k2 => ?_) kk
    · obtain ⟨x, rfl⟩ := ai_isJ_spec hv; exact lv_lstore_n hx hb hd hk hl hok.2 (ai_lm_st2 r l _ (.long x)) k2
    · obtain ⟨x, rfl⟩ := ai_isJ_spec hv; exact lv_lstore hx hb hd hl hok.2 (ai_lm_st2 r l _ (.long x)) k2
  · exact absurd rfl hs.2.2.2.1
  · simp only [ai_okb, Bool.and_eq_true, decide_eq_true_eq] at hok
    refine ai_store_ok F hok.1 he hW hl (fun v st0 hv k hk hd k2 => ?_) (fun v st0 hv hd k2 => ?_) kk
    · obtain ⟨x, rfl⟩ := ai_isR_spec hv; exact lv_astore_n hx hb hd hk hl hok.2 (ai_lm_st1 r l _ (.ref x)) k2
    · obtain ⟨x, rfl⟩ := ai_isR_spec hv; exact lv_astore hx hb hd hl hok.2 (ai_lm_st1 r l _ (.ref x)) k2
  · exact absurd rfl hs.2.2.2.2.1
  · exact ai_inc_ok F hok he hW hl kk
  · exact ai_arith_ok F hok he hW hl kk
  · exact absurd rfl hs.2.2.2.2.2.1
  · exact ai_arith1_ok F hok he hW hl kk
  · exact ai_arithL_ok F hok he hW hl kk
  · exact ai_stk_ok F hok he hW hl kk
  · cases he
    simp only [ai_okb, decide_eq_true_eq] at hok
    exact lv_goto (tgt := nx) hx hb hok (by omega) (kk H locs ls hW hl)
  · simp only [ai_okb, Bool.and_eq_true, decide_eq_true_eq] at hok
    obtain ⟨⟨h1, h2⟩, rfl⟩ := hok
    exact ai_gf_ok F h1 h2 he hW hl kk
  · simp only [ai_okb, Bool.and_eq_true, decide_eq_true_eq] at hok
    obtain ⟨⟨⟨h1, h2⟩, h3⟩, rfl⟩ := hok
    exact ai_pI_ok F h1 h2 h3 he hW hl kk
  · simp only [ai_okb, Bool.and_eq_true, decide_eq_true_eq] at hok
    obtain ⟨⟨⟨h1, h2⟩, h3⟩, rfl⟩ := hok
    exact ai_pZ_ok F h1 h2 h3 he hW hl kk
  · simp only [ai_okb, Bool.and_eq_true, decide_eq_true_eq] at hok
    obtain ⟨⟨⟨h1, h2⟩, h3⟩, rfl⟩ := hok
    exact ai_pJ_ok F h1 h2 h3 he hW hl kk
  · simp only [ai_okb, Bool.and_eq_true, decide_eq_true_eq] at hok
    obtain ⟨⟨⟨h1, h2⟩, h3⟩, rfl⟩ := hok
    exact ai_pA_ok F (fun h => by cases h) h1 h2 h3 he hW hl kk
  · simp only [ai_okb, Bool.and_eq_true, decide_eq_true_eq] at hok
    obtain ⟨⟨⟨⟨⟨h1, h2⟩, h3⟩, h4⟩, h5⟩, rfl⟩ := hok
    exact ai_pA_ok F (fun _ => ⟨hini h4, h5⟩) h1 h2 h3 he hW hl kk
  · simp only [ai_okb, Bool.and_eq_true, decide_eq_true_eq] at hok
    obtain ⟨h1, rfl⟩ := hok
    exact ai_ldi_ok F (Or.inl ⟨rfl, h1⟩) he hW hl kk
  · simp only [ai_okb, Bool.and_eq_true, decide_eq_true_eq] at hok
    obtain ⟨h1, rfl⟩ := hok
    exact ai_ldl_ok F h1 he hW hl kk
  · simp only [ai_okb, Bool.and_eq_true, decide_eq_true_eq] at hok
    obtain ⟨h1, rfl⟩ := hok
    exact ai_ldi_ok F (Or.inr ⟨Or.inl rfl, h1⟩) he hW hl kk
  · simp only [ai_okb, Bool.and_eq_true, decide_eq_true_eq] at hok
    obtain ⟨h1, rfl⟩ := hok
    exact ai_ldi_ok F (Or.inr ⟨Or.inr rfl, h1⟩) he hW hl kk
  · simp only [ai_okb, Bool.and_eq_true, decide_eq_true_eq] at hok
    obtain ⟨h1, rfl⟩ := hok
    exact ai_lda_ok F h1 he hW hl kk
  · simp only [ai_okb, Bool.and_eq_true, decide_eq_true_eq] at hok
    obtain ⟨h1, rfl⟩ := hok
    exact ai_sti_ok F (Or.inl ⟨rfl, rfl, h1⟩) he hW hl kk
  · simp only [ai_okb, Bool.and_eq_true, decide_eq_true_eq] at hok
    obtain ⟨h1, rfl⟩ := hok
    exact ai_stl_ok F h1 he hW hl kk
  · simp only [ai_okb, Bool.and_eq_true, decide_eq_true_eq] at hok
    obtain ⟨h1, rfl⟩ := hok
    exact ai_sti_ok F (Or.inr (Or.inl ⟨rfl, rfl, h1⟩)) he hW hl kk
  · simp only [ai_okb, Bool.and_eq_true, decide_eq_true_eq] at hok
    obtain ⟨h1, rfl⟩ := hok
    exact ai_sti_ok F (Or.inr (Or.inr ⟨rfl, rfl, h1⟩)) he hW hl kk
  · simp only [ai_okb, Bool.and_eq_true, decide_eq_true_eq] at hok
    obtain ⟨⟨h1, rfl⟩, rfl⟩ := hok
    exact ai_sta_ok F h1 he hW hl kk
  · simp only [ai_okb, Bool.and_eq_true, decide_eq_true_eq] at hok
    obtain ⟨h1, rfl⟩ := hok
    exact ai_len_ok F h1 he hW hl kk
  · exact absurd rfl hs.2.2.2.2.2.2.1
  · exact absurd rfl hs.2.2.2.2.2.2.2.1
  · exact absurd rfl hs.2.2.2.2.2.2.2.2
  · split at he
    · rename_i o st0
      cases hc : Nat.ble (st0.map fun v => v.category).sum 8 with
      | false => rw [hc] at he; cases he
      | true =>
        rw [hc] at he
        cases he
        exact ai_oi_ok F hok hfr hlo (Nat.le_of_ble_eq_true hc) hW hl kk
    · cases he
  · simp only [ai_okb, Bool.and_eq_true, decide_eq_true_eq] at hok
    obtain ⟨⟨h1, h2⟩, rfl⟩ := hok
    exact ai_acp_ok F h1 h2 gw_nat gw_sta gw_sys hfr hlo he hW hl kk
  · cases he
end AIZ
