/-! ===== walks of methods that stand outside the table: rows of their own, calls of the table's methods ===== -/
theorem ai_all (n : Nat) : ai_Sound ai_Z n := ai_sound ai_Z_ok ai_Z_row kg258 n
def ai_gor : Nat → List ai_r → Nat → ai_L → List Value → ai_S → ai_V → Option (Nat × ai_L × List Value × ai_S × ai_V)
  | 0, _, pc, l, st, S, V => some (pc, l, st, S, V)
  | j + 1, rs, pc, l, st, S, V => match ai_at rs pc with
    | none => none
    | some (nx, op, a, b, x, _) => cond (Nat.blt op 65 || Nat.blt 67 op && Nat.blt op 70)
      (match ai_ex ai_F op a b x l st S V with
      | none => none
      | some (l', st', S', V') => ai_gor j rs nx l' st' S' V')
      none
section WN
variable {p : Program} {L : Launch} {e : Env} {R : Room} {s : State} {m : MethodId} {args : Array Value} {below : List Frame} {meth : Method} {c : Code} {H : Heap} {locs : List Loc} {cells slots : Nat} {Q : State → Prop}
variable {own : String} {cc : ByteArray} {ret : Option FieldType} {ini : Bool} {nL pc nx op a b : Nat} {x : Int32} {ts : List (Int32 × Nat)} {l l' : ai_L} {st st' : List Value} {S S' : ai_S} {V V' : ai_V} {D : va_G} {E : Nat → ClassId} {r : Nat → Nat} {A : Nat → Prop} {ls : Array Slot} {rs : List ai_r}
theorem wn_go (F : CallFix p m c cc nL s args GW own) (hok : rs.all (ai_okb own cc ret nL ini) = true) (hini : ini = true → meth.name = "<init>") (hfr : 1 ≤ R.frames) (hlo : 200 ≤ R.locals) (hcl : cells ≤ R.cells) (hsl : slots ≤ R.slots) (hz : ai_Z (r 999999) (r 999998) A s) :
    ∀ (j : Nat) {pc pc' : Nat} {l l' : ai_L} {st st' : List Value} {S S' : ai_S} {V V' : ai_V} {H : Heap} {locs : List Loc} {ls : Array Slot}, ai_gor j rs pc l st S V = some (pc', l', st', S', V') → ai_Wd D E r A s H locs S V → lv_has ls nL (ai_lm r l) →
      ai_Go p L e R s m args below meth c cells slots Q nL D E r A pc' l' st' S' V' → W p L e R s m args below meth c H locs cells slots Q (F0 m pc ls (st.map (ai_cv r))) := by
  intro j
  induction j with
  | zero =>
    intro pc pc' l l' st st' S S' V V' H locs ls hg hW hl kk
    cases hg
    exact kk H locs ls hW hl
  | succ j ih =>
    intro pc pc' l l' st st' S S' V V' H locs ls hg hW hl kk
    rw [ai_gor] at hg
    split at hg
    · cases hg
    · rename_i nx op a b x ts hat
      have hok1 := List.all_eq_true.mp hok _ (ai_at_mem hat)
      rw [cond_eq_ite] at hg
      split at hg
      · rename_i hop
        split at hg
        · cases hg
        · rename_i he
          have hop2 : op < 65 ∨ 67 < op := by
            rw [Bool.or_eq_true, Bool.and_eq_true] at hop
            rcases hop with h | h
            · exact Or.inl (by simpa [Nat.blt_eq] using h)
            · exact Or.inr (by simpa [Nat.blt_eq] using h.1)
          have kk1 : ai_Go p L e R s m args below meth c cells slots Q nL D E r A nx _ _ _ _ := fun H1 locs1 ls1 hW1 hl1 => ih hg hW1 hl1 kk
          by_cases h3 : op = 3 ∨ op = 12 ∨ op = 14 ∨ op = 16 ∨ op = 18 ∨ op = 21
          · exact ai_Z_row F hok1 h3 hfr hlo hcl hsl hz he hW hl kk1
          · exact ai_ex_ok F hok1 hini ⟨by omega, by omega, by omega, by omega, by omega, by omega, by omega, by omega, by omega⟩ hfr hlo hcl hsl he hW hl kk1
      · cases hg
theorem wn_br (F : CallFix p m c cc nL s args GW own) (hok : rs.all (ai_okb own cc ret nL ini) = true) {pc' : Nat} (hat : ai_at rs pc = some (nx, op, a, b, x, ts)) (h90 : op < 90) (hbr : ai_br op a b nx ts st S = some (pc', st')) (hW : ai_Wd D E r A s H locs S V)
    (kk : W p L e R s m args below meth c H locs cells slots Q (F0 m pc' ls (st'.map (ai_cv r)))) : W p L e R s m args below meth c H locs cells slots Q (F0 m pc ls (st.map (ai_cv r))) :=
  ai_br_ok F (List.all_eq_true.mp hok _ (ai_at_mem hat)) h90 hbr hW kk
/-- what a call of the table's method b leaves -/
abbrev wn_K (p : Program) (L : Launch) (e : Env) (R : Room) (s : State) (m : MethodId) (args : Array Value) (below : List Frame) (meth : Method) (c : Code) (cells slots : Nat) (Q : State → Prop) (D : va_G) (E : Nat → ClassId) (r : Nat → Nat) (A : Nat → Prop) (pc : Nat) (ls : Array Slot) (v : Option Value) (rest : List Value) (S S' : ai_S) (V' : ai_V) : Prop :=
  ∀ (r' : Nat → Nat) (H1 : Heap) (locs1 : List Loc), ai_Ag S.length S'.length r r' → ai_Wd D E r' A s H1 locs1 S' V' → W p L e R s m args below meth c H1 locs1 (cells + (S'.length - S.length)) (slots + (ai_sz S' - ai_sz S)) Q (F0 m (pc + 3) ls ((v.map (ai_cv r')).toList ++ rest.map (ai_cv r)))
theorem wn_pre {as : List Value} (hz : ai_Z (r 999999) (r 999998) A s) (hA : ∀ q, s.heap.size ≤ q → A q) (hW : ai_Wd D E r A s H locs S V) : ∀ U : State, U.heap = H → s.WarmedH U.vm → ai_Pc ai_Z D E r H.size S V as (as.map (ai_cv r)).toArray U := by
  obtain ⟨hK, hO, hP, hD, hSt⟩ := hW
  intro U hU hwm
  refine ⟨rfl, by rw [hU], by rw [hU]; exact hP, va_K.moved hwm.alike hK, va_AO.moved hwm.alike hO, hD.weaken (fun _ _ _ _ => trivial), ?_⟩
  refine ai_Z_ok.1 _ _ A _ s U hz ?_ (by rw [hU]; exact hSt.1) (fun q h1 h2 => by rw [hU]; exact hSt.2.1 q h1 h2) hwm
  intro q hq
  rcases hq with ⟨j, y, hj⟩ | hq
  · exact hD.2 j _ hj
  · exact hA q (Nat.le_trans hSt.1 hq)
theorem wn_callV {d : Nat} {v : Option Value} {o : Nat} {as rest fs : List Value} (F : CallFix p m c cc nL s args GW own) (hok : rs.all (ai_okb own cc ret nL ini) = true) (hat : ai_at rs pc = some (nx, 90, a, b, x, ts)) (hrun : Rn d b 0 (lv_args 0 (.ref o :: as)) [] S V v S' V') (hob : ai_ob S o (ai_km b).2.2.2.2.2 = some fs) (h13 : (ai_km b).2.2.2.2.2 < 13)
    (hnp : as.length = ai_np b) (hfit : ai_fit b (.ref o :: as) rest = true) (hst : st = as.reverse ++ .ref o :: rest) (hfr : d + 2 ≤ R.frames) (hlo : 100 * (d + 1) + 300 ≤ R.locals) (hcl : cells + (S'.length - S.length) ≤ R.cells) (hsl : slots + (ai_sz S' - ai_sz S) ≤ R.slots)
    (hz : ai_Z (r 999999) (r 999998) A s) (hA : ∀ q, s.heap.size ≤ q → A q) (hW : ai_Wd D E r A s H locs S V) (hl : lv_has ls nL (ai_lm r l)) (kk : wn_K p L e R s m args below meth c cells slots Q D E r A pc ls v rest S S' V') : W p L e R s m args below meth c H locs cells slots Q (F0 m pc ls (st.map (ai_cv r))) := by
  obtain ⟨n, hrun⟩ := hrun
  have hok1 := List.all_eq_true.mp hok _ (ai_at_mem hat)
  have hts := F.2.2.2.2
  simp only [ai_okb, ai_mw, Bool.and_eq_true, decide_eq_true_eq] at hok1
  obtain ⟨⟨hd, ⟨⟨hw, hb256⟩, hci⟩⟩, hnx⟩ := hok1
  have hwm := ai_wd_spec hw
  have hmb := kg258 b hb256
  simp only [ai_fit, Bool.and_eq_true] at hfit
  have hf1 := Nat.le_of_ble_eq_true hfit.1
  have hf2 := Nat.le_of_ble_eq_true hfit.2
  have hM := ai_met (ai_all n) hrun hb256 hmb hf2 L D E r H.size
  have hcn : (ai_kc (ai_km b).2.2.2.2.2).1 = (ai_km b).1.cls := by
    rw [Bool.or_eq_true] at hci
    rcases hci with hci | hci
    · have := (of_decide_eq_true hci).1
      rw [this] at h13
      exact absurd h13 (by decide)
    · rw [Bool.and_eq_true] at hci
      exact of_decide_eq_true hci.2
  have hg : (ai_w E r V S)[o]? = some (r o, .inr ((ai_km b).2.2.2.2.2, fs.mapIdx (fun k v => ai_cv r (ai_fv V o k v)))) := by rw [ai_w_get, ai_ob_spec hob]; rfl
  obtain ⟨cell, g1, g2, g3⟩ := va_recv hW.1 hW.2.2.1 (kcl_get h13) hg
  rw [hcn] at g3
  have hstk : st.map (ai_cv r) = (as.map (ai_cv r)).reverse ++ .ref (r o) :: rest.map (ai_cv r) := by rw [hst]; simp [ai_cv]
  have hcat : (List.map (fun v => v.category) (rest.map (ai_cv r))).sum ≤ 8 := by rw [ai_cats]; exact hf1
  exact ai_cont (va_runV (As := as.map (ai_cv r)) (rest := rest.map (ai_cv r)) F hM ⟨callB_of (ai_km b).2.2.2.2.1 hts (ai_good hmb) rfl rfl rfl (hts _ (hwm _ (by simp))) (hts _ (hwm _ (by simp))) hmb.2.2.2.1 ⟨hfr, ai_roomL hmb.2.2.2.2 hlo⟩, hts _ (hwm _ (by simp)), hts _ (hwm _ (by simp))⟩ ⟨ai_blind ai_Z_ok, ⟨cell, g1, g2, g3⟩, wn_pre hz hA hW⟩ rfl (by rw [List.length_map]; exact hnp) hl.1 hstk (lv_room hcat) hd ⟨hcl, hsl⟩) hW hA kk
theorem wn_callI {d : Nat} {o : Nat} {as rest : List Value} (F : CallFix p m c cc nL s args GW own) (hok : rs.all (ai_okb own cc ret nL ini) = true) (hat : ai_at rs pc = some (nx, 92, a, b, x, ts)) (hrun : Rn d b 0 (lv_args 0 (.ref o :: as)) [] S V none S' V')
    (hnp : as.length = ai_np b) (hfit : ai_fit b (.ref o :: as) rest = true) (hst : st = as.reverse ++ .ref o :: rest) (hfr : d + 2 ≤ R.frames) (hlo : 100 * (d + 1) + 300 ≤ R.locals) (hcl : cells + (S'.length - S.length) ≤ R.cells) (hsl : slots + (ai_sz S' - ai_sz S) ≤ R.slots)
    (hz : ai_Z (r 999999) (r 999998) A s) (hA : ∀ q, s.heap.size ≤ q → A q) (hW : ai_Wd D E r A s H locs S V) (hl : lv_has ls nL (ai_lm r l)) (kk : wn_K p L e R s m args below meth c cells slots Q D E r A pc ls none rest S S' V') : W p L e R s m args below meth c H locs cells slots Q (F0 m pc ls (st.map (ai_cv r))) := by
  obtain ⟨n, hrun⟩ := hrun
  have hok1 := List.all_eq_true.mp hok _ (ai_at_mem hat)
  have hts := F.2.2.2.2
  simp only [ai_okb, Bool.and_eq_true, decide_eq_true_eq] at hok1
  obtain ⟨⟨⟨⟨⟨hd, hw⟩, hini⟩, hret⟩, hb256⟩, hnx⟩ := hok1
  have hwm := ai_wd_spec hw
  have hmb := kg258 b hb256
  simp only [ai_fit, Bool.and_eq_true] at hfit
  have hf1 := Nat.le_of_ble_eq_true hfit.1
  have hf2 := Nat.le_of_ble_eq_true hfit.2
  have hM := ai_met (ai_all n) hrun hb256 hmb hf2 L D E r H.size
  have hstk : st.map (ai_cv r) = (as.map (ai_cv r)).reverse ++ .ref (r o) :: rest.map (ai_cv r) := by rw [hst]; simp [ai_cv]
  have hcat : (List.map (fun v => v.category) (rest.map (ai_cv r))).sum ≤ 8 := by rw [ai_cats]; exact hf1
  exact ai_cont (va_runI (bytes := (ai_km b).2.1) (maxL := (ai_km b).2.2.1) (As := as.map (ai_cv r)) (rest := rest.map (ai_cv r)) F hM ⟨callB_of (ai_km b).2.2.2.2.1 hts (ai_good hmb) (by rw [ai_ws, hret]) rfl rfl (hts _ (hwm _ (by simp))) (hts _ (hwm _ (by simp))) hmb.2.2.2.1 ⟨hfr, ai_roomL hmb.2.2.2.2 hlo⟩, hini, hts _ (hwm _ (by simp))⟩ ⟨ai_blind ai_Z_ok, wn_pre hz hA hW⟩ rfl (by rw [List.length_map]; exact hnp) hl.1 hstk (lv_room hcat) hd ⟨hcl, hsl⟩) hW hA kk
end WN
