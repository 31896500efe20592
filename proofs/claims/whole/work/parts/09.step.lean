/-! ===== one row of code: the machine does what the abstract machine does ===== -/
def ai_tys (E : Nat → ClassId) : List (ClassId × FieldType) := [(E 0, .int), (E 1, .long), (E 2, .byte), (E 3, .boolean), (E 4, .object "RentByTheWheel$State")]
def ai_Wd (D : va_G) (E : Nat → ClassId) (r : Nat → Nat) (A : Nat → Prop) (s : State) (H : Heap) (locs : List Loc) (S : ai_S) (V : ai_V) : Prop :=
  va_K D kcl (ai_tys E) s ∧ va_AO "RentByTheWheel$State" s ∧ va_P D kcl (ai_w E r V S) H ∧ va_D A (ai_w E r V S) ∧ va_S A s.heap H locs
/-- the tables of the classes -/
theorem kcl_get {b : Nat} (h : b < 13) : kcl[b]? = some (ai_kc b) := by
  have hl : b < kcl.length := h
  rw [ai_kc, List.getD_eq_getElem?_getD, List.getElem?_eq_getElem hl]
  rfl
theorem kw_all {b : Nat} (h : b < 13) : ∀ w ∈ u_ws (ai_kc b).1 (ai_kc b).2.1 (ai_kc b).2.2, w ∈ GW := by
  match b, h with
  | 0, _ => exact kw0
  | 1, _ => exact kw1
  | 2, _ => exact kw2
  | 3, _ => exact kw3
  | 4, _ => exact kw4
  | 5, _ => exact kw5
  | 6, _ => exact kw6
  | 7, _ => exact kw7
  | 8, _ => exact kw8
  | 9, _ => exact kw9
  | 10, _ => exact kw10
  | 11, _ => exact kw11
  | 12, _ => exact kw12
  | b + 13, h => exact absurd h (by omega)
theorem kn_all {b : Nat} (h : b < 13) : ∀ i, i < (ai_kc b).2.2 → ∀ j, j < (ai_kc b).2.2 → i ≠ j → ((ai_kc b).2.1 i).2.1 ≠ ((ai_kc b).2.1 j).2.1 := by
  match b, h with
  | 0, _ => exact kn0
  | 1, _ => exact kn1
  | 2, _ => exact kn2
  | 3, _ => exact kn3
  | 4, _ => exact kn4
  | 5, _ => exact kn5
  | 6, _ => exact kn6
  | 7, _ => exact kn7
  | 8, _ => exact kn8
  | 9, _ => exact kn9
  | 10, _ => exact kn10
  | 11, _ => exact kn11
  | 12, _ => exact kn12
  | b + 13, h => exact absurd h (by omega)
theorem ky_all {b : Nat} (h : b < 13) : ∀ k, k < (ai_kc b).2.2 → parseFieldDescriptor ((ai_kc b).2.1 k).2.2.1 = some (ai_kt b k) := by
  match b, h with
  | 0, _ => exact ky0
  | 1, _ => exact ky1
  | 2, _ => exact ky2
  | 3, _ => exact ky3
  | 4, _ => exact ky4
  | 5, _ => exact ky5
  | 6, _ => exact ky6
  | 7, _ => exact ky7
  | 8, _ => exact ky8
  | 9, _ => exact ky9
  | 10, _ => exact ky10
  | 11, _ => exact ky11
  | 12, _ => exact ky12
  | b + 13, h => exact absurd h (by omega)
theorem ai_ob_spec {S : ai_S} {o ci : Nat} {fs : List Value} (h : ai_ob S o ci = some fs) : S[o]? = some (.inr (ci, fs)) := by
  unfold ai_ob at h
  split at h
  · rename_i c fs' hS
    cases hb : Nat.beq c ci with
    | true =>
      rw [hb] at h
      cases h
      rw [hS, Nat.eq_of_beq_eq_true hb]
    | false => rw [hb] at h; cases h
  · cases h
theorem ai_ai_spec {S : ai_S} {o t n : Nat} (h : ai_ai S o t = some n) : ∃ f, S[o]? = some (.inl (t, n, .inl f)) := by
  unfold ai_ai at h
  split at h
  · rename_i c n' f hS
    cases hb : Nat.beq c t with
    | true =>
      rw [hb] at h
      cases h
      exact ⟨f, by rw [hS, Nat.eq_of_beq_eq_true hb]⟩
    | false => rw [hb] at h; cases h
  · cases h
theorem ai_al_spec {S : ai_S} {o t n : Nat} (h : ai_al S o t = some n) : ∃ f, S[o]? = some (.inl (t, n, .inr (.inl f))) := by
  unfold ai_al at h
  split at h
  · rename_i c n' f hS
    cases hb : Nat.beq c t with
    | true =>
      rw [hb] at h
      cases h
      exact ⟨f, by rw [hS, Nat.eq_of_beq_eq_true hb]⟩
    | false => rw [hb] at h; cases h
  · cases h
theorem ai_ar_spec {S : ai_S} {o t n : Nat} {f : Nat → Option Nat} (h : ai_ar S o t = some (n, f)) : S[o]? = some (.inl (t, n, .inr (.inr (.inr (.inr f))))) := by
  unfold ai_ar at h
  split at h
  · rename_i c n' f' hS
    cases hb : Nat.beq c t with
    | true =>
      rw [hb] at h
      cases h
      rw [hS, Nat.eq_of_beq_eq_true hb]
    | false => rw [hb] at h; cases h
  · cases h
theorem fa9_nlt {x : Int32} (h : 0 ≤ x) : ¬ x < 0 := by
  rw [Int32.le_iff_toInt_le] at h
  rw [Int32.lt_iff_toInt_lt]
  omega
section AIX
variable {p : Program} {L : Launch} {e : Env} {R : Room} {s : State} {m : MethodId} {args : Array Value} {below : List Frame} {meth : Method} {c : Code} {H : Heap} {locs : List Loc} {cells slots : Nat} {Q : State → Prop}
variable {own : String} {cc : ByteArray} {nL pc nx a b : Nat} {x : Int32} {ts : List (Int32 × Nat)} {l l' : ai_L} {st st' : List Value} {S S' : ai_S} {V V' : ai_V} {D : va_G} {E : Nat → ClassId} {r : Nat → Nat} {A : Nat → Prop} {ls : Array Slot}
/-- what the row behind needs -/
abbrev ai_Go (p : Program) (L : Launch) (e : Env) (R : Room) (s : State) (m : MethodId) (args : Array Value) (below : List Frame) (meth : Method) (c : Code) (cells slots : Nat) (Q : State → Prop) (nL : Nat) (D : va_G) (E : Nat → ClassId) (r : Nat → Nat) (A : Nat → Prop) (nx : Nat) (l : ai_L) (st : List Value) (S : ai_S) (V : ai_V) : Prop :=
  ∀ (H : Heap) (locs : List Loc) (ls : Array Slot), ai_Wd D E r A s H locs S V → lv_has ls nL (ai_lm r l) → W p L e R s m args below meth c H locs cells slots Q (F0 m nx ls (st.map (ai_cv r)))
theorem ai_lm_at (hl : lv_has ls nL (ai_lm r l)) {i : Nat} {v : Value} (h : ai_get l i = some v) : ls[i]? = some (.val (ai_cv r v)) :=
  hl.2.2 (i, ai_cv r v) (List.mem_map.mpr ⟨(i, v), ai_get_mem h, rfl⟩)
theorem ai_gf_ok (F : CallFix p m c cc nL s args GW own) (hd : decode cc pc = .ok (.getfield a, 3)) (hf : ai_fl own a b ts = true) (he : ai_gf (b / 100) (b % 100) l st S V = some (l', st', S', V')) (hW : ai_Wd D E r A s H locs S V) (hl : lv_has ls nL (ai_lm r l))
    (kk : ai_Go p L e R s m args below meth c cells slots Q nL D E r A (pc + 3) l' st' S' V') : W p L e R s m args below meth c H locs cells slots Q (F0 m pc ls (st.map (ai_cv r))) := by
  unfold ai_gf at he
  split at he
  · rename_i o st0
    split at he
    · rename_i fs hob
      split at he
      · rename_i v hv
        cases he
        have hS := ai_ob_spec hob
        simp only [ai_fl, Bool.and_eq_true, decide_eq_true_eq] at hf
        obtain ⟨hx, hb, -, hown, hts⟩ := F
        obtain ⟨hK, hO, hP, hD, hSt⟩ := id hW
        have hg : (ai_w E r V S)[o]? = some (r o, .inr (b / 100, fs.mapIdx (fun k v => ai_cv r (ai_fv V o k v)))) := by rw [ai_w_get, hS]; rfl
        refine va_get (D := D) (ci := b / 100) (T := (ai_kc (b / 100)).2.1) (N := (ai_kc (b / 100)).2.2) (C := (ai_kc (b / 100)).1) hx hb hts (kw_all hf.2) hown hK hP o hg (kcl_get hf.2) (b % 100) hf.1.2 (hts _ (ai_wd_spec hf.1.1 _ List.mem_cons_self)) (fun _ h9 => h9) (v := ai_cv r (ai_fv V o (b % 100) v)) (by rw [List.getElem?_mapIdx, hv]; rfl) hd ?_
        exact kk H locs ls hW hl
      · cases he
    · cases he
  · cases he
theorem ai_put_ok (F : CallFix p m c cc nL s args GW own) (hd : decode cc pc = .ok (.putfield a, 3)) (hf : ai_fl own a b ts = true) {o : Nat} {v : Value} {fs : List Value} {ty : FieldType} (hfin : ((ai_kc (b / 100)).2.1 (b % 100)).2.2.2 = false) (hty : ai_kt (b / 100) (b % 100) = ty) (hn : narrow ty v = v) (hft : fits ty v = true)
    (hS : S[o]? = some (.inr (b / 100, fs))) (hk : b % 100 < fs.length) (hw : ai_w E r V' S' = (ai_w E r V S).set o (r o, .inr (b / 100, (fs.mapIdx (fun k v => ai_cv r (ai_fv V o k v))).set (b % 100) v))) (hW : ai_Wd D E r A s H locs S V) (hl : lv_has ls nL (ai_lm r l))
    (kk : ai_Go p L e R s m args below meth c cells slots Q nL D E r A (pc + 3) l st S' V') : W p L e R s m args below meth c H locs cells slots Q (F0 m pc ls (v :: .ref (r o) :: st.map (ai_cv r))) := by
  simp only [ai_fl, Bool.and_eq_true, decide_eq_true_eq] at hf
  obtain ⟨hx, hb, -, hown, hts⟩ := F
  obtain ⟨hK, hO, hP, hD, hSt⟩ := hW
  have hg : (ai_w E r V S)[o]? = some (r o, .inr (b / 100, fs.mapIdx (fun k v => ai_cv r (ai_fv V o k v)))) := by rw [ai_w_get, hS]; rfl
  refine va_put (D := D) (ci := b / 100) (T := (ai_kc (b / 100)).2.1) (N := (ai_kc (b / 100)).2.2) (C := (ai_kc (b / 100)).1) hx hb hts (kw_all hf.2) (ai_kt (b / 100)) (ky_all hf.2) (kn_all hf.2) hown hK hP hD hSt o hg (kcl_get hf.2) (b % 100) hf.1.2 (hts _ (ai_wd_spec hf.1.1 _ List.mem_cons_self)) (fun _ h9 => h9) hfin (ty := ty) (by rw [ky_all hf.2 _ hf.1.2, hty]) hn hft (by simpa using hk) hd (fun H1 locs1 hP1 hD1 hS1 => ?_)
  rw [← hw] at hP1 hD1
  exact kk H1 locs1 ls ⟨hK, hO, hP1, hD1, hS1⟩ hl
theorem ai_putF_ok (F : CallFix p m c cc nL s args GW own) (hnm : meth.name = "<init>") (hd : decode cc pc = .ok (.putfield a, 3)) (hf : ai_fl own a b ts = true) {o : Nat} {v : Value} {fs : List Value} {ty : FieldType} (hfin : ((ai_kc (b / 100)).2.1 (b % 100)).2.2.2 = true) (hdecl : ((ai_kc (b / 100)).2.1 (b % 100)).1 = own) (hty : ai_kt (b / 100) (b % 100) = ty) (hn : narrow ty v = v) (hft : fits ty v = true)
    (hS : S[o]? = some (.inr (b / 100, fs))) (hk : b % 100 < fs.length) (hw : ai_w E r V' S' = (ai_w E r V S).set o (r o, .inr (b / 100, (fs.mapIdx (fun k v => ai_cv r (ai_fv V o k v))).set (b % 100) v))) (hW : ai_Wd D E r A s H locs S V) (hl : lv_has ls nL (ai_lm r l))
    (kk : ai_Go p L e R s m args below meth c cells slots Q nL D E r A (pc + 3) l st S' V') : W p L e R s m args below meth c H locs cells slots Q (F0 m pc ls (v :: .ref (r o) :: st.map (ai_cv r))) := by
  simp only [ai_fl, Bool.and_eq_true, decide_eq_true_eq] at hf
  obtain ⟨hx, hb, -, hown, hts⟩ := F
  obtain ⟨hK, hO, hP, hD, hSt⟩ := hW
  have hg : (ai_w E r V S)[o]? = some (r o, .inr (b / 100, fs.mapIdx (fun k v => ai_cv r (ai_fv V o k v)))) := by rw [ai_w_get, hS]; rfl
  refine va_putF (D := D) (ci := b / 100) (T := (ai_kc (b / 100)).2.1) (N := (ai_kc (b / 100)).2.2) (C := (ai_kc (b / 100)).1) hx hb hts (kw_all hf.2) (ai_kt (b / 100)) (ky_all hf.2) (kn_all hf.2) hown hK hP hD hSt o hg (kcl_get hf.2) (b % 100) hf.1.2 (hts _ (ai_wd_spec hf.1.1 _ List.mem_cons_self)) (fun _ h9 => h9) hfin hnm hdecl (ty := ty) (by rw [ky_all hf.2 _ hf.1.2, hty]) hn hft (by simpa using hk) hd (fun H1 locs1 hP1 hD1 hS1 => ?_)
  rw [← hw] at hP1 hD1
  exact kk H1 locs1 ls ⟨hK, hO, hP1, hD1, hS1⟩ hl
theorem ai_pI_ok (F : CallFix p m c cc nL s args GW own) (hd : decode cc pc = .ok (.putfield a, 3)) (hf : ai_fl own a b ts = true) (hfd : ai_fd b false .int = true) (he : ai_pI (b / 100) (b % 100) l st S V = some (l', st', S', V')) (hW : ai_Wd D E r A s H locs S V) (hl : lv_has ls nL (ai_lm r l))
    (kk : ai_Go p L e R s m args below meth c cells slots Q nL D E r A (pc + 3) l' st' S' V') : W p L e R s m args below meth c H locs cells slots Q (F0 m pc ls (st.map (ai_cv r))) := by
  simp only [ai_fd, Bool.and_eq_true, decide_eq_true_eq] at hfd
  unfold ai_pI at he
  split at he
  · rename_i x o st0
    split at he
    · rename_i fs hob
      split at he
      · rename_i z hv
        cases he
        exact ai_put_ok F hd hf (v := .int x) (V' := si V o (b % 100) x) hfd.1 hfd.2 rfl rfl (ai_ob_spec hob) (List.getElem?_eq_some_iff.mp hv).1 (ai_w_si (ai_ob_spec hob) hv) hW hl kk
      · cases he
    · cases he
  · cases he
theorem ai_pZ_ok (F : CallFix p m c cc nL s args GW own) (hd : decode cc pc = .ok (.putfield a, 3)) (hf : ai_fl own a b ts = true) (hfd : ai_fd b false .boolean = true) (he : ai_pZ (b / 100) (b % 100) l st S V = some (l', st', S', V')) (hW : ai_Wd D E r A s H locs S V) (hl : lv_has ls nL (ai_lm r l))
    (kk : ai_Go p L e R s m args below meth c cells slots Q nL D E r A (pc + 3) l' st' S' V') : W p L e R s m args below meth c H locs cells slots Q (F0 m pc ls (st.map (ai_cv r))) := by
  simp only [ai_fd, Bool.and_eq_true, decide_eq_true_eq] at hfd
  unfold ai_pZ at he
  split at he
  · rename_i x o st0
    split at he
    · rename_i fs hob
      split at he
      · rename_i z hv
        split at he
        · rename_i h01
          cases he
          exact ai_put_ok F hd hf (v := .int x) (V' := si V o (b % 100) x) hfd.1 hfd.2 (by rcases h01 with rfl | rfl <;> decide) (by rcases h01 with rfl | rfl <;> decide) (ai_ob_spec hob) (List.getElem?_eq_some_iff.mp hv).1 (ai_w_si (ai_ob_spec hob) hv) hW hl kk
        · cases he
      · cases he
    · cases he
  · cases he
theorem ai_pJ_ok (F : CallFix p m c cc nL s args GW own) (hd : decode cc pc = .ok (.putfield a, 3)) (hf : ai_fl own a b ts = true) (hfd : ai_fd b false .long = true) (he : ai_pJ (b / 100) (b % 100) l st S V = some (l', st', S', V')) (hW : ai_Wd D E r A s H locs S V) (hl : lv_has ls nL (ai_lm r l))
    (kk : ai_Go p L e R s m args below meth c cells slots Q nL D E r A (pc + 3) l' st' S' V') : W p L e R s m args below meth c H locs cells slots Q (F0 m pc ls (st.map (ai_cv r))) := by
  simp only [ai_fd, Bool.and_eq_true, decide_eq_true_eq] at hfd
  unfold ai_pJ at he
  split at he
  · rename_i x o st0
    split at he
    · rename_i fs hob
      split at he
      · rename_i z hv
        cases he
        exact ai_put_ok F hd hf (v := .long x) (V' := sj V o (b % 100) x) hfd.1 hfd.2 rfl rfl (ai_ob_spec hob) (List.getElem?_eq_some_iff.mp hv).1 (ai_w_sj (ai_ob_spec hob) hv) hW hl kk
      · cases he
    · cases he
  · cases he
theorem ai_fr_ty {b : Nat} {f : Bool} (h : ai_fr b f = true) (z : Nat) : ((ai_kc (b / 100)).2.1 (b % 100)).2.2.2 = f ∧ narrow (ai_kt (b / 100) (b % 100)) (.ref z) = .ref z ∧ fits (ai_kt (b / 100) (b % 100)) (.ref z) = true := by
  simp only [ai_fr, Bool.and_eq_true, decide_eq_true_eq] at h
  refine ⟨h.1, ?_⟩
  revert h
  cases ai_kt (b / 100) (b % 100) <;> simp [narrow, fits]
theorem ai_pA_ok (F : CallFix p m c cc nL s args GW own) {fin : Bool} (hnm : fin = true → meth.name = "<init>" ∧ ((ai_kc (b / 100)).2.1 (b % 100)).1 = own) (hd : decode cc pc = .ok (.putfield a, 3)) (hf : ai_fl own a b ts = true) (hfd : ai_fr b fin = true) (he : ai_pA (b / 100) (b % 100) l st S V = some (l', st', S', V')) (hW : ai_Wd D E r A s H locs S V) (hl : lv_has ls nL (ai_lm r l))
    (kk : ai_Go p L e R s m args below meth c cells slots Q nL D E r A (pc + 3) l' st' S' V') : W p L e R s m args below meth c H locs cells slots Q (F0 m pc ls (st.map (ai_cv r))) := by
  unfold ai_pA at he
  split at he
  · rename_i q o st0
    obtain ⟨h1, h2, h3⟩ := ai_fr_ty hfd (r q)
    split at he
    · rename_i fs hob
      split at he
      · rename_i z hv
        cases he
        cases fin with
        | false => exact ai_put_ok F hd hf (v := .ref (r q)) (V' := sr V o (b % 100) (some q)) h1 rfl h2 h3 (ai_ob_spec hob) (List.getElem?_eq_some_iff.mp hv).1 (ai_w_sr (ai_ob_spec hob) hv) hW hl kk
        | true => exact ai_putF_ok F (hnm rfl).1 hd hf (v := .ref (r q)) (V' := sr V o (b % 100) (some q)) h1 (hnm rfl).2 rfl h2 h3 (ai_ob_spec hob) (List.getElem?_eq_some_iff.mp hv).1 (ai_w_sr (ai_ob_spec hob) hv) hW hl kk
      · rename_i hv
        cases he
        cases fin with
        | false => exact ai_put_ok F hd hf (v := .ref (r q)) (V' := V) h1 rfl h2 h3 (ai_ob_spec hob) (List.getElem?_eq_some_iff.mp hv).1 (ai_w_pa (ai_ob_spec hob) hv) hW hl kk
        | true => exact ai_putF_ok F (hnm rfl).1 hd hf (v := .ref (r q)) (V' := V) h1 (hnm rfl).2 rfl h2 h3 (ai_ob_spec hob) (List.getElem?_eq_some_iff.mp hv).1 (ai_w_pa (ai_ob_spec hob) hv) hW hl kk
      · cases he
    · cases he
  · cases he
theorem ai_ldi_ok (F : CallFix p m c cc nL s args GW own) {t : Nat} (ht : (t = 0 ∧ decode cc pc = .ok (.iaload, 1)) ∨ ((t = 2 ∨ t = 3) ∧ decode cc pc = .ok (.baload, 1))) (he : ai_ldi t l st S V = some (l', st', S', V')) (hW : ai_Wd D E r A s H locs S V) (hl : lv_has ls nL (ai_lm r l))
    (kk : ai_Go p L e R s m args below meth c cells slots Q nL D E r A (pc + 1) l' st' S' V') : W p L e R s m args below meth c H locs cells slots Q (F0 m pc ls (st.map (ai_cv r))) := by
  unfold ai_ldi at he
  split at he
  · rename_i i o st0
    split at he
    · rename_i n hob
      split at he
      · rename_i hin
        cases he
        obtain ⟨f, hS⟩ := ai_ai_spec hob
        obtain ⟨hx, hb, -, hown, hts⟩ := F
        obtain ⟨hK, hO, hP, hD, hSt⟩ := id hW
        have hg : (ai_w E r V S)[o]? = some (r o, .inl (E t, n, .inl (V.2.2.1 o))) := by rw [ai_w_get, hS]; rfl
        rcases ht with ⟨rfl, hd⟩ | ⟨rfl | rfl, hd⟩
        · exact va_iald hx hb hK hP o 0 hg rfl hin hd (kk H locs ls hW hl)
        · exact va_bald hx hb hK hP o 2 hg rfl hin hd (kk H locs ls hW hl)
        · exact va_zald hx hb hK hP o 3 hg rfl hin hd (kk H locs ls hW hl)
      · cases he
    · cases he
  · cases he
theorem ai_ldl_ok (F : CallFix p m c cc nL s args GW own) (hd : decode cc pc = .ok (.laload, 1)) (he : ai_ldl 1 l st S V = some (l', st', S', V')) (hW : ai_Wd D E r A s H locs S V) (hl : lv_has ls nL (ai_lm r l))
    (kk : ai_Go p L e R s m args below meth c cells slots Q nL D E r A (pc + 1) l' st' S' V') : W p L e R s m args below meth c H locs cells slots Q (F0 m pc ls (st.map (ai_cv r))) := by
  unfold ai_ldl at he
  split at he
  · rename_i i o st0
    split at he
    · rename_i n hob
      split at he
      · rename_i hin
        cases he
        obtain ⟨f, hS⟩ := ai_al_spec hob
        obtain ⟨hx, hb, -, hown, hts⟩ := F
        obtain ⟨hK, hO, hP, hD, hSt⟩ := id hW
        have hg : (ai_w E r V S)[o]? = some (r o, .inl (E 1, n, .inr (.inl (V.2.2.2.1 o)))) := by rw [ai_w_get, hS]; rfl
        exact va_lald hx hb hK hP o 1 hg rfl hin hd (kk H locs ls hW hl)
      · cases he
    · cases he
  · cases he
theorem ai_lda_ok (F : CallFix p m c cc nL s args GW own) (hd : decode cc pc = .ok (.aaload, 1)) (he : ai_lda 4 l st S V = some (l', st', S', V')) (hW : ai_Wd D E r A s H locs S V) (hl : lv_has ls nL (ai_lm r l))
    (kk : ai_Go p L e R s m args below meth c cells slots Q nL D E r A (pc + 1) l' st' S' V') : W p L e R s m args below meth c H locs cells slots Q (F0 m pc ls (st.map (ai_cv r))) := by
  unfold ai_lda at he
  split at he
  · rename_i i o st0
    split at he
    · rename_i n f hob
      split at he
      · rename_i hin
        cases he
        have hS := ai_ar_spec hob
        obtain ⟨hx, hb, -, hown, hts⟩ := F
        obtain ⟨hK, hO, hP, hD, hSt⟩ := id hW
        have hg : (ai_w E r V S)[o]? = some (r o, .inl (E 4, n, .inr (.inr (.inr (.inr (fun j => if j < n then (f j).map r else none)))))) := by rw [ai_w_get, hS]; rfl
        have hi : i.toNatClampNeg < n := by
          rcases Nat.lt_or_ge i.toNatClampNeg n with h | h
          · exact h
          · exact absurd (Or.inr h) hin
        have hv : ai_cv r (va_rf (f i.toNatClampNeg)) = va_rf ((fun j => if j < n then (f j).map r else none) i.toNatClampNeg) := by
          simp only [hi, if_true]
          cases f i.toNatClampNeg <;> rfl
        refine va_aldq hx hb hK hP o 4 hg rfl hin hd ?_
        rw [← hv]
        exact kk H locs ls hW hl
      · cases he
    · cases he
  · cases he
theorem ai_sti_ok (F : CallFix p m c cc nL s args GW own) {t : Nat} {g : Int32 → Int32} (ht : (t = 0 ∧ g = (fun x => x) ∧ decode cc pc = .ok (.iastore, 1)) ∨ (t = 2 ∧ g = vp_nar .byte ∧ decode cc pc = .ok (.bastore, 1)) ∨ (t = 3 ∧ g = vp_nar .boolean ∧ decode cc pc = .ok (.bastore, 1))) (he : ai_sti t g l st S V = some (l', st', S', V')) (hW : ai_Wd D E r A s H locs S V) (hl : lv_has ls nL (ai_lm r l))
    (kk : ai_Go p L e R s m args below meth c cells slots Q nL D E r A (pc + 1) l' st' S' V') : W p L e R s m args below meth c H locs cells slots Q (F0 m pc ls (st.map (ai_cv r))) := by
  unfold ai_sti at he
  split at he
  · rename_i x i o st0
    split at he
    · rename_i n hob
      split at he
      · rename_i hin
        cases he
        obtain ⟨f, hS⟩ := ai_ai_spec hob
        obtain ⟨hx, hb, -, hown, hts⟩ := F
        obtain ⟨hK, hO, hP, hD, hSt⟩ := id hW
        have hg : (ai_w E r V S)[o]? = some (r o, .inl (E t, n, .inl (V.2.2.1 o))) := by rw [ai_w_get, hS]; rfl
        have hw := ai_w_sa (E := E) (r := r) (V := V) (i := i.toNatClampNeg) (x := g x) hS
        rcases ht with ⟨rfl, rfl, hd⟩ | ⟨rfl, rfl, hd⟩ | ⟨rfl, rfl, hd⟩
        · refine va_iast hx hb hK hP hD hSt o 0 hg rfl hin hd (fun H1 locs1 hP1 hD1 hS1 => ?_)
          rw [← hw] at hP1 hD1
          exact kk H1 locs1 ls ⟨hK, hO, hP1, hD1, hS1⟩ hl
        · refine va_bast hx hb hK hP hD hSt o 2 hg rfl hin hd (fun H1 locs1 hP1 hD1 hS1 => ?_)
          rw [← hw] at hP1 hD1
          exact kk H1 locs1 ls ⟨hK, hO, hP1, hD1, hS1⟩ hl
        · refine va_zast hx hb hK hP hD hSt o 3 hg rfl hin hd (fun H1 locs1 hP1 hD1 hS1 => ?_)
          rw [← hw] at hP1 hD1
          exact kk H1 locs1 ls ⟨hK, hO, hP1, hD1, hS1⟩ hl
      · cases he
    · cases he
  · cases he
theorem ai_stl_ok (F : CallFix p m c cc nL s args GW own) (hd : decode cc pc = .ok (.lastore, 1)) (he : ai_stl 1 l st S V = some (l', st', S', V')) (hW : ai_Wd D E r A s H locs S V) (hl : lv_has ls nL (ai_lm r l))
    (kk : ai_Go p L e R s m args below meth c cells slots Q nL D E r A (pc + 1) l' st' S' V') : W p L e R s m args below meth c H locs cells slots Q (F0 m pc ls (st.map (ai_cv r))) := by
  unfold ai_stl at he
  split at he
  · rename_i x i o st0
    split at he
    · rename_i n hob
      split at he
      · rename_i hin
        cases he
        obtain ⟨f, hS⟩ := ai_al_spec hob
        obtain ⟨hx, hb, -, hown, hts⟩ := F
        obtain ⟨hK, hO, hP, hD, hSt⟩ := id hW
        have hg : (ai_w E r V S)[o]? = some (r o, .inl (E 1, n, .inr (.inl (V.2.2.2.1 o)))) := by rw [ai_w_get, hS]; rfl
        have hw := ai_w_sl (E := E) (r := r) (V := V) (i := i.toNatClampNeg) (x := x) hS
        refine va_last hx hb hK hP hD hSt o 1 hg rfl hin hd (fun H1 locs1 hP1 hD1 hS1 => ?_)
        rw [← hw] at hP1 hD1
        exact kk H1 locs1 ls ⟨hK, hO, hP1, hD1, hS1⟩ hl
      · cases he
    · cases he
  · cases he
theorem ai_sta_ok (F : CallFix p m c cc nL s args GW own) (hd : decode cc pc = .ok (.aastore, 1)) (he : ai_sta 4 7 l st S V = some (l', st', S', V')) (hW : ai_Wd D E r A s H locs S V) (hl : lv_has ls nL (ai_lm r l))
    (kk : ai_Go p L e R s m args below meth c cells slots Q nL D E r A (pc + 1) l' st' S' V') : W p L e R s m args below meth c H locs cells slots Q (F0 m pc ls (st.map (ai_cv r))) := by
  unfold ai_sta at he
  split at he
  · rename_i q i o st0
    split at he
    · rename_i n f hob
      split at he
      · rename_i fs hq
        split at he
        · rename_i hin
          cases he
          have hS := ai_ar_spec hob
          have hSq := ai_ob_spec hq
          obtain ⟨hx, hb, -, hown, hts⟩ := F
          obtain ⟨hK, hO, hP, hD, hSt⟩ := id hW
          have hg : (ai_w E r V S)[o]? = some (r o, .inl (E 4, n, .inr (.inr (.inr (.inr (fun j => if j < n then (f j).map r else none)))))) := by rw [ai_w_get, hS]; rfl
          have hgq : (ai_w E r V S)[q]? = some (r q, .inr (7, fs.mapIdx (fun k v => ai_cv r (ai_fv V q k v)))) := by rw [ai_w_get, hSq]; rfl
          have hi : i.toNatClampNeg < n := by
            rcases Nat.lt_or_ge i.toNatClampNeg n with h | h
            · exact h
            · exact absurd (Or.inr h) hin
          have hw := ai_w_sq (E := E) (r := r) (V := V) (a := q) hS hi
          refine va_astq hx hb hK hP hD hSt o 4 q 7 hg (r := ai_kc 7) rfl hgq rfl hin hd (fun H1 locs1 hP1 hD1 hS1 => ?_)
          rw [← hw] at hP1 hD1
          exact kk H1 locs1 ls ⟨hK, hO, hP1, hD1, hS1⟩ hl
        · cases he
      · cases he
    · cases he
  · cases he
theorem ai_len_ok (F : CallFix p m c cc nL s args GW own) (hd : decode cc pc = .ok (.arraylength, 1)) (he : ai_len l st S V = some (l', st', S', V')) (hW : ai_Wd D E r A s H locs S V) (hl : lv_has ls nL (ai_lm r l))
    (kk : ai_Go p L e R s m args below meth c cells slots Q nL D E r A (pc + 1) l' st' S' V') : W p L e R s m args below meth c H locs cells slots Q (F0 m pc ls (st.map (ai_cv r))) := by
  unfold ai_len at he
  split at he
  · rename_i o st0
    split at he
    · rename_i t n f hS
      cases hb5 : Nat.blt t 5 with
      | false => rw [hb5] at he; cases he
      | true =>
        rw [hb5] at he
        cases he
        obtain ⟨hx, hb, -, hown, hts⟩ := F
        obtain ⟨hK, hO, hP, hD, hSt⟩ := id hW
        have ht : t < 5 := by simpa [Nat.blt_eq] using hb5
        obtain ⟨x, hg, hx1⟩ : ∃ x, (ai_w E r V S)[o]? = some (r o, .inl (E t, x)) ∧ x.1 = n := by
          rw [ai_w_get, hS]
          rcases f with f | f | f | f | f <;> exact ⟨_, rfl, rfl⟩
        have hty : ∃ ty, (ai_tys E)[t]? = some (E t, ty) := by
          match t, ht with
          | 0, _ => exact ⟨_, rfl⟩
          | 1, _ => exact ⟨_, rfl⟩
          | 2, _ => exact ⟨_, rfl⟩
          | 3, _ => exact ⟨_, rfl⟩
          | 4, _ => exact ⟨_, rfl⟩
        obtain ⟨ty, hty⟩ := hty
        exact va_alen hx hb hK hP o t hg hty (by rw [hx1]) hd (kk H locs ls hW hl)
    · cases he
  · cases he
theorem ai_acp_ok (F : CallFix p m c cc nL s args GW own) (hd : decode cc pc = .ok (.invokestatic a, 3)) (hw0 : ai_wd ts [.methodLink own a arraycopyName] = true) (hn0 : (Cond.native arraycopyName) ∈ GW) (hs0 : (Cond.static arraycopyName) ∈ GW) (hi0 : (Cond.initialized "java/lang/System") ∈ GW) (hfr : 1 ≤ R.frames) (hlo : 200 ≤ R.locals) (he : ai_acp l st S V = some (l', st', S', V')) (hW : ai_Wd D E r A s H locs S V) (hl : lv_has ls nL (ai_lm r l))
    (kk : ai_Go p L e R s m args below meth c cells slots Q nL D E r A (pc + 3) l' st' S' V') : W p L e R s m args below meth c H locs cells slots Q (F0 m pc ls (st.map (ai_cv r))) := by
  unfold ai_acp at he
  split at he
  · rename_i n dp q sp o st0
    split at he
    · rename_i n0 n1 ho hq
      split at he
      · rename_i hc
        cases he
        obtain ⟨f0, hS0⟩ := ai_ai_spec ho
        obtain ⟨f1, hS1⟩ := ai_ai_spec hq
        obtain ⟨hx, hb, hml, hown, hts⟩ := F
        obtain ⟨hK, hO, hP, hD, hSt⟩ := id hW
        have hg0 : (ai_w E r V S)[o]? = some (r o, .inl (E 0, n0, .inl (V.2.2.1 o))) := by rw [ai_w_get, hS0]; rfl
        have hg1 : (ai_w E r V S)[q]? = some (r q, .inl (E 0, n1, .inl (V.2.2.1 q))) := by rw [ai_w_get, hS1]; rfl
        have hw := ai_w_cp (E := E) (r := r) (V := V) (o := o) (sp := sp.toNatClampNeg) (dp := dp.toNatClampNeg) (m := n.toNatClampNeg) hS1
        have hcat : ((st'.map (ai_cv r)).map fun v => v.category).sum = (st'.map fun v => v.category).sum := by
          rw [List.map_map]
          congr 1
          apply List.map_congr_left
          intro v _
          exact ai_cv_cat r v
        refine va_copyi hx hb (hml.trans hl.1.symm) hown (hts _ (ai_wd_spec hw0 _ List.mem_cons_self)) (hts _ hn0) (hts _ hs0) (hts _ hi0) hK hP hD hSt o q 0 0 hg0 hg1 rfl rfl rfl (fa9_nlt hc.1) (fa9_nlt hc.2.1) (fa9_nlt hc.2.2.1) hc.2.2.2.1 hc.2.2.2.2.1 (fun _ _ => rfl) hfr (by rw [hcat]; exact Nat.le_trans (Nat.add_le_add_right hc.2.2.2.2.2 _) (Nat.le_trans (by decide) hlo)) hd (fun H1 locs1 hP1 hD1 hS1 => ?_)
        rw [← hw] at hP1 hD1
        exact kk H1 locs1 ls ⟨hK, hO, hP1, hD1, hS1⟩ hl
      · cases he
    · cases he
  · cases he
end AIX
