/-! ===== the law's walk: its rows, the script's reads, its calls ===== -/
section WL
variable {p : Program} {L : Launch} {e : Env} {s : State} {m : MethodId} {args : Array Value} {below : List Frame} {meth : Method} {c : Code} {cells slots : Nat} {Q : State → Prop}
variable {nx op a b pc pc' : Nat} {x : Int32} {ts : List (Int32 × Nat)} {l l' : ai_L} {st st' : List Value} {S S' : ai_S} {V V' : ai_V} {D : va_G} {E : Nat → ClassId} {r : Nat → Nat} {A : Nat → Prop} {n : Nat} {xs : Nat → Int32}
/-- what holds all along the law's walk -/
def lw_C (p : Program) (L : Launch) (s : State) (m : MethodId) (args : Array Value) (meth : Method) (c : Code) (A : Nat → Prop) (r : Nat → Nat) (n : Nat) (xs : Nat → Int32) : Prop :=
  CallFix p m c code 8 s args GW "RentByTheWheelLaw" ∧ ai_Z (r 999999) (r 999998) A s ∧ nx_Z A s ∧ (∀ q, s.heap.size ≤ q → A q) ∧ va_X (r 999996) n xs s s.heap ∧ r 999996 < s.heap.size ∧ ¬ A (r 999996) ∧ L.stackTraces = false
theorem lw_C.move {r' : Nat → Nat} {k k' : Nat} (h : lw_C p L s m args meth c A r n xs) (hr : ai_Ag k k' r r') : lw_C p L s m args meth c A r' n xs := by
  obtain ⟨h1, h2, h3, h4, h5, h6, h7, h8⟩ := h
  have e1 := hr.2 999999 (Or.inr (by decide))
  have e2 := hr.2 999998 (Or.inr (by decide))
  have e3 := hr.2 999996 (Or.inr (by decide))
  exact ⟨h1, by rw [e1, e2]; exact h2, h3, h4, by rw [e3]; exact h5, by rw [e3]; exact h6, by rw [e3]; exact h7, h8⟩
abbrev WL (p : Program) (L : Launch) (e : Env) (s : State) (m : MethodId) (args : Array Value) (below : List Frame) (meth : Method) (c : Code) (cells slots : Nat) (Q : State → Prop) (D : va_G) (E : Nat → ClassId) (r : Nat → Nat) (A : Nat → Prop) (pc : Nat) (l : ai_L) (st : List Value) (S : ai_S) (V : ai_V) : Prop :=
  ai_Go p L e room_1 s m args below meth c cells slots Q 8 D E r A pc l st S V
theorem wl_go (C : lw_C p L s m args meth c A r n xs) (hc : cells ≤ 194196) (hs : slots ≤ 8513518) (j : Nat) (h : ai_gor j kz_law pc l st S V = some (pc', l', st', S', V')) (kk : WL p L e s m args below meth c cells slots Q D E r A pc' l' st' S' V') : WL p L e s m args below meth c cells slots Q D E r A pc l st S V :=
  fun _ _ _ hW hl => wn_go C.1 kz_law_ok (fun h => nomatch h) (by decide) (by decide) hc hs C.2.1 j h hW hl kk
theorem wl_ld (C : lw_C p L s m args meth c A r n xs) {i : Int32} (hin : vp_in i n) (hd : decode code pc = .ok (.iaload, 1)) (kk : WL p L e s m args below meth c cells slots Q D E r A (pc + 1) l (.int (xs i.toNatClampNeg) :: st) S V) : WL p L e s m args below meth c cells slots Q D E r A pc l (.int i :: .ref 999996 :: st) S V :=
  fun H locs ls hW hl => va_sld C.1.1 C.1.2.1 C.2.2.2.2.1 C.2.2.2.2.2.1 C.2.2.2.2.2.2.1 hW.2.2.2.2 hin hd (kk H locs ls hW hl)
theorem wl_len (C : lw_C p L s m args meth c A r n xs) (hd : decode code pc = .ok (.arraylength, 1)) (kk : WL p L e s m args below meth c cells slots Q D E r A (pc + 1) l (.int (Int32.ofNat n) :: st) S V) : WL p L e s m args below meth c cells slots Q D E r A pc l (.ref 999996 :: st) S V :=
  fun H locs ls hW hl => va_slen C.1.1 C.1.2.1 C.2.2.2.2.1 C.2.2.2.2.2.1 C.2.2.2.2.2.2.1 hW.2.2.2.2 hd (kk H locs ls hW hl)
theorem wl_brT {q : Prop} [Decidable q] {t f : Nat} (C : lw_C p L s m args meth c A r n xs) (hat : ai_at kz_law pc = some (nx, op, a, b, x, ts)) (h90 : op < 90) (hbr : ai_br op a b nx ts st S = some (if q then t else f, st')) (hq : q)
    (kk : WL p L e s m args below meth c cells slots Q D E r A t l st' S V) : WL p L e s m args below meth c cells slots Q D E r A pc l st S V :=
  fun H locs ls hW hl => wn_brT C.1 kz_law_ok hat h90 hbr hq hW (kk H locs ls hW hl)
theorem wl_brF {q : Prop} [Decidable q] {t f : Nat} (C : lw_C p L s m args meth c A r n xs) (hat : ai_at kz_law pc = some (nx, op, a, b, x, ts)) (h90 : op < 90) (hbr : ai_br op a b nx ts st S = some (if q then t else f, st')) (hq : ¬ q)
    (kk : WL p L e s m args below meth c cells slots Q D E r A f l st' S V) : WL p L e s m args below meth c cells slots Q D E r A pc l st S V :=
  fun H locs ls hW hl => wn_brF C.1 kz_law_ok hat h90 hbr hq hW (kk H locs ls hW hl)
theorem wl_sw {t : Nat} {y : Int32} (C : lw_C p L s m args meth c A r n xs) (hat : ai_at kz_law pc = some (nx, op, a, b, x, ts)) (h90 : op < 90) (hbr : ai_br op a b nx ts st S = some (ai_sel ts a y, st')) (hq : ai_sel ts a y = t)
    (kk : WL p L e s m args below meth c cells slots Q D E r A t l st' S V) : WL p L e s m args below meth c cells slots Q D E r A pc l st S V :=
  fun H locs ls hW hl => wn_br C.1 kz_law_ok hat h90 (by rw [hq] at hbr; exact hbr) hW (kk H locs ls hW hl)
theorem wl_sub {lc : ai_L} (ps : List Nat) (h1 : lv_pick l ps = lc) (kk : WL p L e s m args below meth c cells slots Q D E r A pc lc st S V) : WL p L e s m args below meth c cells slots Q D E r A pc l st S V := by
  intro H locs ls hW hl
  refine kk H locs ls hW (lv_sub hl ps ?_)
  rw [← h1]
  show List.filterMap (fun k => (l.map (fun q => (q.1, ai_cv r q.2)))[k]?) ps = (List.filterMap (fun k => l[k]?) ps).map (fun q => (q.1, ai_cv r q.2))
  rw [List.map_filterMap]
  congr 1
  funext k
  rw [List.getElem?_map]
theorem wl_wide {k j : Nat} (h1 : cells ≤ k) (h2 : slots ≤ j) (kk : WL p L e s m args below meth c k j Q D E r A pc l st S V) : WL p L e s m args below meth c cells slots Q D E r A pc l st S V :=
  fun H locs ls hW hl => W.widen h1 h2 (kk H locs ls hW hl)
theorem wl_callA {d : Nat} {v : Option Value} {o : Nat} {as rest fs : List Value} (C : lw_C p L s m args meth c A r n xs) (hat : ai_at kz_law pc = some (nx, 90, a, b, x, ts)) (hrun : Rn d b 0 (lv_args 0 (.ref o :: as)) [] S V v S' V') (hob : ai_ob S o (ai_km b).2.2.2.2.2 = some fs) (h13 : (ai_km b).2.2.2.2.2 < 13)
    (hnp : as.length = ai_np b) (hfit : ai_fit b (.ref o :: as) rest = true) (hst : st = as.reverse ++ .ref o :: rest) (hd : d ≤ 500) (hcl : cells + (S'.length - S.length) ≤ 194196) (hsl : slots + (ai_sz S' - ai_sz S) ≤ 8513518)
    (kk : ∀ r' : Nat → Nat, ai_Ag S.length S'.length r r' → ∀ (H : Heap) (locs : List Loc) (ls : Array Slot), ai_Wd D E r' A s H locs S' V' → lv_has ls 8 (ai_lm r l) → W p L e room_1 s m args below meth c H locs (cells + (S'.length - S.length)) (slots + (ai_sz S' - ai_sz S)) Q (F0 m (pc + 3) ls ((v.map (ai_cv r')).toList ++ rest.map (ai_cv r)))) : WL p L e s m args below meth c cells slots Q D E r A pc l st S V :=
  fun H locs ls hW hl => wn_callV C.1 kz_law_ok hat hrun hob h13 hnp hfit hst (by show d + 2 ≤ 2048; omega) (by show 100 * (d + 1) + 300 ≤ 84000; omega) hcl hsl C.2.1 C.2.2.2.1 hW hl (fun r' H1 locs1 hr' hW1 => kk r' hr' H1 locs1 ls hW1 hl)
theorem wl_call {d : Nat} {v : Value} {o : Nat} {as rest fs : List Value} (C : lw_C p L s m args meth c A r n xs) (hat : ai_at kz_law pc = some (nx, 90, a, b, x, ts)) (hrun : Rn d b 0 (lv_args 0 (.ref o :: as)) [] S V (some v) S V') (hob : ai_ob S o (ai_km b).2.2.2.2.2 = some fs) (h13 : (ai_km b).2.2.2.2.2 < 13)
    (hnp : as.length = ai_np b) (hfit : ai_fit b (.ref o :: as) rest = true) (hst : st = as.reverse ++ .ref o :: rest) (hd : d ≤ 500) (hcl : cells ≤ 194196) (hsl : slots ≤ 8513518)
    (kk : WL p L e s m args below meth c cells slots Q D E r A (pc + 3) l (v :: rest) S V') : WL p L e s m args below meth c cells slots Q D E r A pc l st S V := by
  refine wl_callA C hat hrun hob h13 hnp hfit hst hd (by rw [Nat.sub_self]; exact hcl) (by rw [Nat.sub_self]; exact hsl) ?_
  intro r' hr' H locs ls hW hl
  obtain rfl := hr'.1 rfl
  simp only [Nat.sub_self, Nat.add_zero]
  exact kk H locs ls hW hl
/-- a call of one of the helpers -/
theorem wl_callH {y : MethodName} {cc : ByteArray} {nL mc ms n0 idx : Nat} {hh : List (Nat × Nat × Nat × Nat)} {as rest : List Value} {v : Value} (C : lw_C p L s m args meth c A r n xs) (hM : ∀ sz, Met L y (hx_ws y cc nL hh) (hx_rm mc ms) (nx_P D E r sz S V as) (ai_Qc D E r S.length (va_A (ai_w E r V S) sz) (some v) S V') mc ms (va_A (ai_w E r V S) sz))
    (hd : decode code pc = .ok (.invokestatic idx, 3)) (hg : GoodIn GW (va_wsS "RentByTheWheelLaw" idx y (hx_ws y cc nL hh))) (hdsc : y.cls ≠ "java/lang/invoke/MethodHandle" ∧ y.cls ≠ "java/lang/invoke/VarHandle" ∧ (parseMethodDescriptor y.desc).map (fun d => d.parameters.length) = some n0) (hnL : nL ≤ 60) (hnp : as.length = n0) (hst : st = as.reverse ++ rest) (hcat : (rest.map fun v => v.category).sum ≤ 8)
    (hcl : cells + mc ≤ 194196) (hsl : slots + ms ≤ 8513518) (kk : WL p L e s m args below meth c (cells + mc) (slots + ms) Q D E r A (pc + 3) l (v :: rest) S V') : WL p L e s m args below meth c cells slots Q D E r A pc l st S V := by
  intro H locs ls hW hl
  have hstk : st.map (ai_cv r) = (as.map (ai_cv r)).reverse ++ rest.map (ai_cv r) := by rw [hst]; simp
  refine ai_cont (vx_runSW (hh := hh) (bytes := cc) (maxL := nL) (ret := some .int) (As := as.map (ai_cv r)) (rest := rest.map (ai_cv r)) C.1 (hM H.size) (vx_cwSW n0 C.1.2.2.2.2 hg rfl rfl rfl hdsc ⟨by show 20 + 1 ≤ 2048; decide, by show 8 + (nL + 11) + 1000 ≤ 84000; omega⟩) ⟨nx_blind, nx_pre C.2.2.1 C.2.1 C.2.2.2.1 hW⟩ rfl (by rw [List.length_map]; exact hnp) hl.1 hstk (lv_room (by rw [ai_cats]; exact hcat)) hd ⟨hcl, hsl⟩) hW C.2.2.2.1 ?_
  intro r' H1 locs1 hr' hW1
  obtain rfl := hr'.1 rfl
  exact kk H1 locs1 ls hW1 hl
end WL
