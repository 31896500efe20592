/-! ===== the worlds that the abstract machine's states stand for ===== -/
def ai_cv (r : Nat → Nat) (v : Value) : Value := match v with
  | .ref a => .ref (r a)
  | .retAddr a => .ref a
  | v => v
def ai_ce (E : Nat → ClassId) (r : Nat → Nat) (V : ai_V) (o : Nat) (e : va_E) : va_E := match e with
  | .inr (ci, fs) => .inr (ci, fs.mapIdx (fun k v => ai_cv r (ai_fv V o k v)))
  | .inl (t, n, .inl _) => .inl (E t, n, .inl (V.2.2.1 o))
  | .inl (t, n, .inr (.inl _)) => .inl (E t, n, .inr (.inl (V.2.2.2.1 o)))
  | .inl (t, n, .inr (.inr (.inr (.inr f)))) => .inl (E t, n, .inr (.inr (.inr (.inr (fun j => if j < n then (f j).map r else none)))))
  | .inl (t, n, .inr (.inr (.inl f))) => .inl (E t, n, .inr (.inr (.inl f)))
  | .inl (t, n, .inr (.inr (.inr (.inl f)))) => .inl (E t, n, .inr (.inr (.inr (.inl f))))
def ai_w (E : Nat → ClassId) (r : Nat → Nat) (V : ai_V) (S : ai_S) : va_W := S.mapIdx (fun o e => (r o, ai_ce E r V o e))
theorem ai_w_get (E : Nat → ClassId) (r : Nat → Nat) (V : ai_V) (S : ai_S) (o : Nat) : (ai_w E r V S)[o]? = (S[o]?).map (fun e => (r o, ai_ce E r V o e)) := by
  simp [ai_w, List.getElem?_mapIdx]
theorem ai_w_len (E : Nat → ClassId) (r : Nat → Nat) (V : ai_V) (S : ai_S) : (ai_w E r V S).length = S.length := by simp [ai_w]
theorem ai_w_set {E : Nat → ClassId} {r : Nat → Nat} {V V' : ai_V} {S S' : ai_S} {o : Nat} {e' : va_E} {x : va_E} (hs : ∀ j, j ≠ o → S'[j]? = S[j]?) (ho : S'[o]? = some e') (hl : o < S.length) (hV : ∀ j e, j ≠ o → ai_ce E r V' j e = ai_ce E r V j e) (hx : ai_ce E r V' o e' = x) :
    ai_w E r V' S' = (ai_w E r V S).set o (r o, x) := by
  apply List.ext_getElem?
  intro j
  by_cases h : j = o
  · subst h
    rw [ai_w_get, ho, List.getElem?_set_self (by rw [ai_w_len]; exact hl), ← hx]
    rfl
  · rw [List.getElem?_set_ne (fun q => h q.symm), ai_w_get, ai_w_get, hs j h]
    cases S[j]? with
    | none => rfl
    | some e => simp only [Option.map_some, hV j e h]
/-- one row of numbers alone counts -/
theorem ai_ce_row {E : Nat → ClassId} {r : Nat → Nat} {V V' : ai_V} {j : Nat} (h1 : ∀ k, gi V' j k = gi V j k) (h2 : ∀ k, gj V' j k = gj V j k) (h3 : V'.2.2.1 j = V.2.2.1 j) (h4 : V'.2.2.2.1 j = V.2.2.2.1 j) (h5 : ∀ k, gr V' j k = gr V j k) (e : va_E) : ai_ce E r V' j e = ai_ce E r V j e := by
  have hf : ∀ (k : Nat) (v : Value), ai_fv V' j k v = ai_fv V j k v := by
    intro k v
    cases v <;> simp [ai_fv, h1, h2, h5]
  unfold ai_ce
  split <;> simp [h3, h4, hf]
theorem ai_fs_set {r : Nat → Nat} {V V' : ai_V} {o k : Nat} {fs fs' : List Value} {v : Value} (hk : k < fs.length) (hlen : fs'.length = fs.length) (hv : ∀ w, fs'[k]? = some w → ai_cv r (ai_fv V' o k w) = v) (hn : ∀ j w, j ≠ k → fs'[j]? = some w → fs[j]? = some w ∧ ai_fv V' o j w = ai_fv V o j w) :
    fs'.mapIdx (fun k v => ai_cv r (ai_fv V' o k v)) = (fs.mapIdx (fun k v => ai_cv r (ai_fv V o k v))).set k v := by
  apply List.ext_getElem?
  intro j
  by_cases h : j = k
  · subst h
    rw [List.getElem?_set_self (by simpa using hk), List.getElem?_mapIdx]
    have h1 : j < fs'.length := by omega
    rw [List.getElem?_eq_getElem h1, Option.map_some, hv _ (List.getElem?_eq_getElem h1)]
  · rw [List.getElem?_set_ne (fun q => h q.symm), List.getElem?_mapIdx, List.getElem?_mapIdx]
    by_cases h1 : j < fs'.length
    · obtain ⟨a1, a2⟩ := hn j fs'[j] h (List.getElem?_eq_getElem h1)
      rw [List.getElem?_eq_getElem h1, a1, Option.map_some, Option.map_some, a2]
    · rw [List.getElem?_eq_none (by omega), List.getElem?_eq_none (by omega)]
      rfl
theorem ai_u_o {α : Type} (f : Nat → Nat → α) {o k : Nat} {x : α} {a b : Nat} (h : a ≠ o) : ai_u f o k x a b = f a b := by simp [ai_u, h]
theorem ai_u_k {α : Type} (f : Nat → Nat → α) {o k : Nat} {x : α} {b : Nat} (h : b ≠ k) : ai_u f o k x o b = f o b := by simp [ai_u, h]
theorem ai_u_s {α : Type} (f : Nat → Nat → α) {o k : Nat} {x : α} : ai_u f o k x o k = x := by simp [ai_u]
theorem ai_lt {S : ai_S} {o : Nat} {e : va_E} (h : S[o]? = some e) : o < S.length := (List.getElem?_eq_some_iff.mp h).1
/-- an int field is put -/
theorem ai_w_si {E : Nat → ClassId} {r : Nat → Nat} {V : ai_V} {S : ai_S} {o k ci : Nat} {fs : List Value} {z x : Int32} (hS : S[o]? = some (.inr (ci, fs))) (hk : fs[k]? = some (.int z)) :
    ai_w E r (si V o k x) S = (ai_w E r V S).set o (r o, .inr (ci, (fs.mapIdx (fun k v => ai_cv r (ai_fv V o k v))).set k (.int x))) := by
  refine ai_w_set (fun _ _ => rfl) hS (ai_lt hS) (fun j e hj => ai_ce_row (V := V) (V' := si V o k x) (j := j) (fun k' => ai_u_o _ hj) (fun _ => rfl) rfl rfl (fun _ => rfl) e) ?_
  show (Sum.inr (ci, _) : va_E) = _
  congr 2
  refine ai_fs_set (List.getElem?_eq_some_iff.mp hk).1 rfl (fun w hw => ?_) (fun j w hj hw => ⟨hw, ?_⟩)
  · rw [hk] at hw
    cases hw
    simp [ai_fv, gi, si, ai_u, ai_cv]
  · cases w <;> simp [ai_fv, gi, gj, gr, si, ai_u, hj]
theorem ai_w_sj {E : Nat → ClassId} {r : Nat → Nat} {V : ai_V} {S : ai_S} {o k ci : Nat} {fs : List Value} {z x : Int64} (hS : S[o]? = some (.inr (ci, fs))) (hk : fs[k]? = some (.long z)) :
    ai_w E r (sj V o k x) S = (ai_w E r V S).set o (r o, .inr (ci, (fs.mapIdx (fun k v => ai_cv r (ai_fv V o k v))).set k (.long x))) := by
  refine ai_w_set (fun _ _ => rfl) hS (ai_lt hS) (fun j e hj => ai_ce_row (V := V) (V' := sj V o k x) (j := j) (fun _ => rfl) (fun k' => ai_u_o _ hj) rfl rfl (fun _ => rfl) e) ?_
  show (Sum.inr (ci, _) : va_E) = _
  congr 2
  refine ai_fs_set (List.getElem?_eq_some_iff.mp hk).1 rfl (fun w hw => ?_) (fun j w hj hw => ⟨hw, ?_⟩)
  · rw [hk] at hw
    cases hw
    simp [ai_fv, gj, sj, ai_u, ai_cv]
  · cases w <;> simp [ai_fv, gi, gj, gr, sj, ai_u, hj]
theorem ai_w_sr {E : Nat → ClassId} {r : Nat → Nat} {V : ai_V} {S : ai_S} {o k ci a : Nat} {fs : List Value} {z : UInt64} (hS : S[o]? = some (.inr (ci, fs))) (hk : fs[k]? = some (.double z)) :
    ai_w E r (sr V o k (some a)) S = (ai_w E r V S).set o (r o, .inr (ci, (fs.mapIdx (fun k v => ai_cv r (ai_fv V o k v))).set k (.ref (r a)))) := by
  refine ai_w_set (fun _ _ => rfl) hS (ai_lt hS) (fun j e hj => ai_ce_row (V := V) (V' := sr V o k (some a)) (j := j) (fun _ => rfl) (fun _ => rfl) rfl rfl (fun k' => ai_u_o _ hj) e) ?_
  show (Sum.inr (ci, _) : va_E) = _
  congr 2
  refine ai_fs_set (List.getElem?_eq_some_iff.mp hk).1 rfl (fun w hw => ?_) (fun j w hj hw => ⟨hw, ?_⟩)
  · rw [hk] at hw
    cases hw
    simp [ai_fv, gr, sr, ai_u, ai_cv, va_rf]
  · cases w <;> simp [ai_fv, gi, gj, gr, sr, ai_u, hj]
theorem ai_w_pa {E : Nat → ClassId} {r : Nat → Nat} {V : ai_V} {S : ai_S} {o k ci a : Nat} {fs : List Value} (hS : S[o]? = some (.inr (ci, fs))) (hk : fs[k]? = some .null) :
    ai_w E r V (S.set o (.inr (ci, fs.set k (.ref a)))) = (ai_w E r V S).set o (r o, .inr (ci, (fs.mapIdx (fun k v => ai_cv r (ai_fv V o k v))).set k (.ref (r a)))) := by
  have hl := ai_lt hS
  have hk1 : k < fs.length := (List.getElem?_eq_some_iff.mp hk).1
  refine ai_w_set (fun j hj => List.getElem?_set_ne (fun q => hj q.symm)) (List.getElem?_set_self hl) hl (fun j e hj => rfl) ?_
  show (Sum.inr (ci, _) : va_E) = _
  congr 2
  refine ai_fs_set hk1 (by simp) (fun w hw => ?_) (fun j w hj hw => ?_)
  · rw [List.getElem?_set_self hk1] at hw
    cases hw
    rfl
  · rw [List.getElem?_set_ne (fun q => hj q.symm)] at hw
    exact ⟨hw, rfl⟩
/-- arrays -/
theorem ai_w_sa {E : Nat → ClassId} {r : Nat → Nat} {V : ai_V} {S : ai_S} {o i t n : Nat} {f : Nat → Int32} {x : Int32} (hS : S[o]? = some (.inl (t, n, .inl f))) :
    ai_w E r (sa V o i x) S = (ai_w E r V S).set o (r o, .inl (E t, n, .inl (upd (V.2.2.1 o) i x))) := by
  refine ai_w_set (fun _ _ => rfl) hS (ai_lt hS) (fun j e hj => ai_ce_row (V := V) (V' := sa V o i x) (j := j) (fun _ => rfl) (fun _ => rfl) (funext fun b => ai_u_o _ hj) rfl (fun _ => rfl) e) ?_
  show (Sum.inl (E t, n, Sum.inl _) : va_E) = _
  congr 4
  funext b
  simp [sa, ai_u, upd]
theorem ai_w_sl {E : Nat → ClassId} {r : Nat → Nat} {V : ai_V} {S : ai_S} {o i t n : Nat} {f : Nat → Int64} {x : Int64} (hS : S[o]? = some (.inl (t, n, .inr (.inl f)))) :
    ai_w E r (sl V o i x) S = (ai_w E r V S).set o (r o, .inl (E t, n, .inr (.inl (vp_updL (V.2.2.2.1 o) i x)))) := by
  refine ai_w_set (fun _ _ => rfl) hS (ai_lt hS) (fun j e hj => ai_ce_row (V := V) (V' := sl V o i x) (j := j) (fun _ => rfl) (fun _ => rfl) rfl (funext fun b => ai_u_o _ hj) (fun _ => rfl) e) ?_
  show (Sum.inl (E t, n, Sum.inr (Sum.inl _)) : va_E) = _
  congr 5
  funext b
  simp [sl, ai_u, vp_updL]
theorem ai_w_cp {E : Nat → ClassId} {r : Nat → Nat} {V : ai_V} {S : ai_S} {o q sp dp m t n : Nat} {f : Nat → Int32} (hS : S[q]? = some (.inl (t, n, .inl f))) :
    ai_w E r (ai_cpy V o q sp dp m) S = (ai_w E r V S).set q (r q, .inl (E t, n, .inl (va_cpy (V.2.2.1 o) (V.2.2.1 q) sp dp m))) := by
  refine ai_w_set (fun _ _ => rfl) hS (ai_lt hS) (fun j e hj => ai_ce_row (V := V) (V' := ai_cpy V o q sp dp m) (j := j) (fun _ => rfl) (fun _ => rfl) (by simp [ai_cpy, hj]) rfl (fun _ => rfl) e) ?_
  show (Sum.inl (E t, n, Sum.inl _) : va_E) = _
  congr 4
  simp [ai_cpy]
theorem ai_w_sq {E : Nat → ClassId} {r : Nat → Nat} {V : ai_V} {S : ai_S} {o i t n a : Nat} {f : Nat → Option Nat} (hS : S[o]? = some (.inl (t, n, .inr (.inr (.inr (.inr f)))))) (hi : i < n) :
    ai_w E r V (S.set o (.inl (t, n, .inr (.inr (.inr (.inr (va_up f i (some a)))))))) = (ai_w E r V S).set o (r o, .inl (E t, n, .inr (.inr (.inr (.inr (va_up (fun j => if j < n then (f j).map r else none) i (some (r a)))))))) := by
  have hl := ai_lt hS
  refine ai_w_set (fun j hj => List.getElem?_set_ne (fun q => hj q.symm)) (List.getElem?_set_self hl) hl (fun j e hj => rfl) ?_
  show (Sum.inl (E t, n, Sum.inr (Sum.inr (Sum.inr (Sum.inr _)))) : va_E) = _
  congr 7
  funext j
  by_cases h : j = i
  · subst h
    simp [va_up, hi]
  · simp [va_up, h]
/-- cells are made: what was there stays -/
theorem ai_cv_new {r : Nat → Nat} {n q : Nat} {v : Value} (h : ai_sc n v = true) : ai_cv (fun a => if a = n then q else r a) v = ai_cv r v := by
  cases v with
  | ref a =>
    have : a < n := by simpa [ai_sc, Nat.blt_eq] using h
    simp [ai_cv, Nat.ne_of_lt this]
  | _ => rfl
theorem ai_rf_new {r : Nat → Nat} {n q : Nat} {x : Option Nat} (h : ai_scr n x = true) : ai_cv (fun a => if a = n then q else r a) (va_rf x) = ai_cv r (va_rf x) := by
  cases x with
  | none => rfl
  | some a =>
    have : a < n := by simpa [ai_scr, Nat.blt_eq] using h
    simp [va_rf, ai_cv, Nat.ne_of_lt this]
theorem ai_scF_at {n : Nat} {V : ai_V} {o : Nat} : ∀ {fs : List Value} {k : Nat}, ai_scF n V o k fs = true → ∀ (j : Nat) (v : Value), fs[j]? = some v → ∀ (r : Nat → Nat) (q : Nat), ai_cv (fun a => if a = n then q else r a) (ai_fv V o (k + j) v) = ai_cv r (ai_fv V o (k + j) v)
  | [], _, _, j, v, hj, _, _ => by simp at hj
  | w :: fs, k, h, j, v, hj, r, q => by
    rw [ai_scF, Bool.and_eq_true] at h
    cases j with
    | zero =>
      cases hj
      cases w with
      | double z => exact ai_rf_new h.1
      | int z => rfl
      | long z => rfl
      | ref z => exact ai_cv_new (v := .ref z) h.1
      | _ => rfl
    | succ j =>
      have := ai_scF_at (k := k + 1) h.2 j v (by simpa using hj) r q
      rwa [show k + 1 + j = k + (j + 1) by omega] at this
theorem ai_scA_at {f : Nat → Option Nat} {n : Nat} : ∀ {m : Nat}, ai_scA f n m = true → ∀ j, j < m → ai_scr n (f j) = true
  | 0, _, j, hj => by omega
  | m + 1, h, j, hj => by
    rw [ai_scA, Bool.and_eq_true] at h
    by_cases hm : j = m
    · subst hm; exact h.1
    · exact ai_scA_at h.2 j (by omega)
theorem ai_ce_new {E : Nat → ClassId} {r : Nat → Nat} {V : ai_V} {n q o : Nat} {e : va_E} (h : ai_scE n V o e = true) : ai_ce E (fun a => if a = n then q else r a) V o e = ai_ce E r V o e := by
  unfold ai_ce
  split
  · rename_i ci fs
    congr 2
    apply List.ext_getElem?
    intro j
    rw [List.getElem?_mapIdx, List.getElem?_mapIdx]
    cases hj : fs[j]? with
    | none => rfl
    | some v =>
      have := ai_scF_at (k := 0) (o := o) (fs := fs) h j v hj r q
      rw [Nat.zero_add] at this
      rw [Option.map_some, Option.map_some, this]
  · rfl
  · rfl
  · rename_i t m f
    congr 7
    funext j
    by_cases hj : j < m
    · have := ai_scA_at (show ai_scA f n m = true from h) j hj
      rw [if_pos hj, if_pos hj]
      cases hf : f j with
      | none => rfl
      | some a =>
        rw [hf] at this
        have h2 : a < n := by simpa [ai_scr, Nat.blt_eq] using this
        simp [Nat.ne_of_lt h2]
    · rw [if_neg hj, if_neg hj]
  · rfl
  · rfl
theorem ai_scS_at {n : Nat} {V : ai_V} : ∀ {S : ai_S} {k : Nat}, ai_scS n V k S = true → ∀ (j : Nat) (e : va_E), S[j]? = some e → ai_scE n V (k + j) e = true
  | [], _, _, j, e, hj => by simp at hj
  | d :: S, k, h, j, e, hj => by
    rw [ai_scS, Bool.and_eq_true] at h
    cases j with
    | zero => cases hj; exact h.1
    | succ j =>
      have := ai_scS_at (k := k + 1) h.2 j e (by simpa using hj)
      rwa [show k + 1 + j = k + (j + 1) by omega] at this
theorem ai_w_new {E : Nat → ClassId} {r : Nat → Nat} {V V' : ai_V} {S : ai_S} {q : Nat} {e x : va_E} (h : ai_scS S.length V 0 S = true) (hV : ∀ j d, j < S.length → ai_ce E (fun a => if a = S.length then q else r a) V' j d = ai_ce E (fun a => if a = S.length then q else r a) V j d) (hx : ai_ce E (fun a => if a = S.length then q else r a) V' S.length e = x) :
    ai_w E (fun a => if a = S.length then q else r a) V' (S ++ [e]) = ai_w E r V S ++ [(q, x)] := by
  apply List.ext_getElem?
  intro j
  rw [ai_w_get]
  by_cases hj : j < S.length
  · rw [List.getElem?_append_left hj, List.getElem?_append_left (by rw [ai_w_len]; exact hj), ai_w_get]
    cases hs : S[j]? with
    | none => rfl
    | some d =>
      have h1 := ai_scS_at h j d hs
      rw [Nat.zero_add] at h1
      rw [Option.map_some, Option.map_some, hV j d hj, ai_ce_new h1, if_neg (Nat.ne_of_lt hj)]
  · rw [List.getElem?_append_right (by omega), List.getElem?_append_right (by rw [ai_w_len]; omega), ai_w_len]
    by_cases h0 : j = S.length
    · subst h0
      simp only [Nat.sub_self, List.getElem?_cons_zero, Option.map_some, if_pos, hx]
    · rw [List.getElem?_eq_none (by simp; omega), List.getElem?_eq_none (by simp; omega)]
      rfl
def ai_lm (r : Nat → Nat) (l : ai_L) : ai_L := l.map (fun q => (q.1, ai_cv r q.2))
theorem ai_cv_cat (r : Nat → Nat) (v : Value) : (ai_cv r v).category = v.category := by cases v <;> rfl
theorem ai_fs_st {r : Nat → Nat} {n q : Nat} {st : List Value} (h : st.all (ai_sc n) = true) : st.map (ai_cv (fun a => if a = n then q else r a)) = st.map (ai_cv r) := by
  apply List.map_congr_left
  intro v hv
  exact ai_cv_new (List.all_eq_true.mp h v hv)
theorem ai_fs_lm {r : Nat → Nat} {n q : Nat} {l : ai_L} (h : l.all (fun q => ai_sc n q.2) = true) : ai_lm (fun a => if a = n then q else r a) l = ai_lm r l := by
  apply List.map_congr_left
  intro v hv
  rw [ai_cv_new (List.all_eq_true.mp h v hv)]
theorem ai_get_mem : ∀ {l : ai_L} {i : Nat} {v : Value}, ai_get l i = some v → (i, v) ∈ l
  | [], _, _, h => by cases h
  | q :: l, i, v, h => by
    rw [ai_get] at h
    cases hb : Nat.beq q.1 i with
    | true =>
      rw [hb, cond_true] at h
      cases h
      have : q.1 = i := Nat.eq_of_beq_eq_true hb
      subst this
      exact List.mem_cons_self
    | false =>
      rw [hb, cond_false] at h
      exact List.mem_cons_of_mem _ (ai_get_mem h)
theorem ai_lm_st1 (r : Nat → Nat) (l : ai_L) (i : Nat) (v : Value) : (i, ai_cv r v) :: (ai_lm r l).filter (fun q => !(q.1 == i) && !(q.1 + 1 == i && q.2.category == 2)) = ai_lm r (ai_st1 l i v) := by
  simp only [ai_lm, ai_st1, List.map_cons, List.filter_map, Function.comp_def, ai_cv_cat]
theorem ai_lm_st2 (r : Nat → Nat) (l : ai_L) (i : Nat) (v : Value) : (i, ai_cv r v) :: (ai_lm r l).filter (fun q => !(q.1 == i) && (!(q.1 == i + 1) && !(q.1 + 1 == i && q.2.category == 2))) = ai_lm r (ai_st2 l i v) := by
  simp only [ai_lm, ai_st2, List.map_cons, List.filter_map, Function.comp_def, ai_cv_cat]
