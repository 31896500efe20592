/-! ===== the abstract machine's runs ===== -/
def ai_tk : Nat → List Value → List Value → Option (List Value × List Value)
  | 0, st, acc => some (acc, st)
  | n + 1, v :: st, acc => ai_tk n st (v :: acc)
  | _ + 1, [], _ => none
def ai_np (k : Nat) : Nat := (ai_km k).2.2.2.2.1
def ai_ret (op : Nat) (st : List Value) : Option (Option Value) := match op, st with
  | 94, [.int x] => some (some (.int x))
  | 95, [.int x] => if x = 0 ∨ x = 1 then some (some (.int x)) else none
  | 96, [.long x] => some (some (.long x))
  | 97, [.ref o] => some (some (.ref o))
  | 98, [] => some none
  | 99, [.int x] => if x = 0 then some (some (.int x)) else none
  | _, _ => none
def ai_callI (op b : Nat) (S : ai_S) (as rest : List Value) : Option (List Value × List Value) := match as with
  | .ref o :: _ => match op with
    | 90 => cond (Nat.beq (ai_km b).2.2.2.2.2 50) (cond (Nat.beq o 999999) (some (as, rest)) none) ((ai_ob S o (ai_km b).2.2.2.2.2).map (fun _ => (as, rest)))
    | _ => some (as, rest)
  | _ => none
def ai_call (op b : Nat) (st : List Value) (S : ai_S) : Option (List Value × List Value) := match op with
  | 91 => ai_tk (ai_np b) st []
  | op => (ai_tk (ai_np b + 1) st []).bind fun q => ai_callI op b S q.1 q.2
def ai_fit (b : Nat) (as rest : List Value) : Bool := Nat.ble (rest.map fun v => v.category).sum 8 && Nat.ble (lg_sl as).length (ai_km b).2.2.1
def ai_run : Nat → Nat → Nat → Nat → ai_L → List Value → ai_S → ai_V → Option (Option Value × ai_S × ai_V)
  | 0, _, _, _, _, _, _, _ => none
  | n + 1, d, k, pc, l, st, S, V => match ai_at (ai_C k) pc with
    | none => none
    | some (nx, op, a, b, x, ts) =>
      cond (Nat.blt op 70)
        (match ai_ex ai_F op a b x l st S V with
        | none => none
        | some (l', st', S', V') => ai_run n d k nx l' st' S' V')
        (cond (Nat.blt op 90)
          (match ai_br op a b nx ts st S with
          | none => none
          | some (pc', st') => ai_run n d k pc' l st' S V)
          (cond (Nat.blt op 94)
            (match d with
            | 0 => none
            | d' + 1 => match ai_call op b st S with
              | none => none
              | some (as, rest) => cond (ai_fit b as rest)
                (match ai_run n d' b 0 (lv_args 0 as) [] S V with
                | none => none
                | some (v, S', V') => cond (Nat.beq S'.length S.length || ai_fs S.length l rest) (ai_run n (d' + 1) k nx l (v.toList ++ rest) S' V') none)
                none)
            (match ai_ret op st with
            | none => none
            | some v => some (v, S, V))))
def ai_sz (S : ai_S) : Nat := (S.map ai_es).sum
theorem ai_sz_app (S : ai_S) (e : va_E) : ai_sz (S ++ [e]) = ai_sz S + ai_es e := by simp [ai_sz]
theorem ai_sz_set {S : ai_S} {o : Nat} {e e' : va_E} (h : S[o]? = some e) (he : ai_es e' = ai_es e) : ai_sz (S.set o e') = ai_sz S := by
  unfold ai_sz
  congr 1
  apply List.ext_getElem?
  intro j
  rw [List.getElem?_map, List.getElem?_map]
  by_cases hj : j = o
  · subst hj
    rw [List.getElem?_set_self (ai_lt h), h, Option.map_some, Option.map_some, he]
  · rw [List.getElem?_set_ne (fun q => hj q.symm)]
/-- which rows make cells -/
theorem ai_ex_len {op a b : Nat} {x : Int32} {l l' : ai_L} {st st' : List Value} {S S' : ai_S} {V V' : ai_V} (hs : op ≠ 65 ∧ op ≠ 66 ∧ op ≠ 67) (he : ai_ex ai_F op a b x l st S V = some (l', st', S', V')) : S'.length = S.length ∧ ai_sz S' = ai_sz S := by
  have pa : ∀ {ci k : Nat}, ai_pA ci k l st S V = some (l', st', S', V') → S'.length = S.length ∧ ai_sz S' = ai_sz S := by
    intro ci k h
    unfold ai_pA at h
    split at h
    · split at h
      · rename_i fs hob
        split at h
        · cases h; exact ⟨rfl, rfl⟩
        · cases h; exact ⟨by simp, ai_sz_set (ai_ob_spec hob) (by simp [ai_es])⟩
        · cases h
      · cases h
    · cases h
  unfold ai_ex at he
  split at he
  all_goals first
    | exact absurd rfl hs.1
    | exact absurd rfl hs.2.1
    | exact absurd rfl hs.2.2
    | exact pa he
    | (cases he; exact ⟨rfl, rfl⟩)
    | skip
  all_goals try simp only [ai_x1, ai_xb, ai_mI, ai_mJ, ai_ld, ai_str, ai_inc, ai_arith, ai_arith1, ai_arithL, ai_stk, ai_gf, ai_pI, ai_pZ, ai_pJ, ai_ldi, ai_ldl, ai_lda, ai_sti, ai_stl, ai_len, ai_acp, Option.bind_eq_some_iff, cond_eq_ite] at he
  all_goals try (repeat' split at he)
  all_goals first
    | (cases he; done)
    | (cases he; exact ⟨rfl, rfl⟩)
    | (obtain ⟨_, _, he⟩ := he; cases he; exact ⟨rfl, rfl⟩)
    | (rw [Option.bind_eq_some_iff] at he; obtain ⟨_, _, he⟩ := he; cases he; exact ⟨rfl, rfl⟩)
    | skip
  unfold ai_sta at he
  split at he
  · split at he
    · rename_i n f hob
      split at he
      · split at he
        · cases he
          exact ⟨by simp, ai_sz_set (ai_ar_spec hob) rfl⟩
        · cases he
      · cases he
    · cases he
  · cases he
theorem ai_newO_len {b : Nat} {l l' : ai_L} {st st' : List Value} {S S' : ai_S} {V V' : ai_V} {fs : List Value} (he : ai_newO b fs l st S V = some (l', st', S', V')) : S' = S ++ [.inr (b, fs)] ∧ S.length < 999000 := by
  unfold ai_newO at he
  cases hf : ai_free l st S V with
  | false => rw [hf] at he; cases he
  | true =>
    rw [hf] at he
    cases he
    simp only [ai_free, Bool.and_eq_true] at hf
    exact ⟨rfl, by simpa [Nat.blt_eq] using hf.2⟩
theorem ai_newA_len {b : Nat} {l l' : ai_L} {st st' : List Value} {S S' : ai_S} {V V' : ai_V} (he : ai_newA b l st S V = some (l', st', S', V')) : ∃ (i : Int32) (st0 : List Value) (e : va_E), st = .int i :: st0 ∧ S' = S ++ [e] ∧ ai_es e = i.toNatClampNeg ∧ S.length < 999000 := by
  unfold ai_newA at he
  split at he
  · rename_i i st0
    split at he
    · cases hf : ai_free l st0 S V with
      | false => rw [hf] at he; cases he
      | true =>
        rw [hf] at he
        cases he
        simp only [ai_free, Bool.and_eq_true] at hf
        exact ⟨i, _, _, rfl, rfl, rfl, by simpa [Nat.blt_eq] using hf.2⟩
    · cases he
  · cases he
theorem ai_newR_len {t : Nat} {l l' : ai_L} {st st' : List Value} {S S' : ai_S} {V V' : ai_V} (he : ai_newR t l st S V = some (l', st', S', V')) : ∃ (i : Int32) (st0 : List Value) (e : va_E), st = .int i :: st0 ∧ S' = S ++ [e] ∧ ai_es e = i.toNatClampNeg ∧ S.length < 999000 := by
  unfold ai_newR at he
  split at he
  · rename_i i st0
    split at he
    · cases hf : ai_free l st0 S V with
      | false => rw [hf] at he; cases he
      | true =>
        rw [hf] at he
        cases he
        simp only [ai_free, Bool.and_eq_true] at hf
        exact ⟨i, _, _, rfl, rfl, rfl, by simpa [Nat.blt_eq] using hf.2⟩
    · cases he
  · cases he
theorem ai_ex_mono {op a b : Nat} {x : Int32} {l l' : ai_L} {st st' : List Value} {S S' : ai_S} {V V' : ai_V} (he : ai_ex ai_F op a b x l st S V = some (l', st', S', V')) : S.length ≤ S'.length ∧ ai_sz S ≤ ai_sz S' := by
  by_cases h65 : op = 65
  · subst h65
    obtain ⟨rfl, -⟩ := ai_newO_len (show ai_newO b (ai_F b) l st S V = _ from he)
    exact ⟨by simp, by rw [ai_sz_app]; omega⟩
  · by_cases h66 : op = 66
    · subst h66
      obtain ⟨-, -, e, -, rfl, -⟩ := ai_newA_len (show ai_newA b l st S V = _ from he)
      exact ⟨by simp, by rw [ai_sz_app]; omega⟩
    · by_cases h67 : op = 67
      · subst h67
        obtain ⟨-, -, e, -, rfl, -⟩ := ai_newR_len (show ai_newR 4 l st S V = _ from he)
        exact ⟨by simp, by rw [ai_sz_app]; omega⟩
      · obtain ⟨h1, h2⟩ := ai_ex_len ⟨h65, h66, h67⟩ he
        omega
theorem ai_run_mono : ∀ {n d k pc : Nat} {l : ai_L} {st : List Value} {S S' : ai_S} {V V' : ai_V} {v : Option Value}, ai_run n d k pc l st S V = some (v, S', V') → S.length ≤ S'.length ∧ ai_sz S ≤ ai_sz S'
  | 0, _, _, _, _, _, _, _, _, _, _, h => by cases h
  | n + 1, d, k, pc, l, st, S, S', V, V', v, h => by
    rw [ai_run] at h
    split at h
    · cases h
    · rename_i nx op a b x ts hat
      rw [cond_eq_ite] at h
      split at h
      · split at h
        · cases h
        · rename_i l1 st1 S1 V1 he
          have h1 := ai_ex_mono he
          have h2 := ai_run_mono h
          omega
      · rw [cond_eq_ite] at h
        split at h
        · split at h
          · cases h
          · exact ai_run_mono h
        · rw [cond_eq_ite] at h
          split at h
          · split at h
            · cases h
            · split at h
              · cases h
              · rw [cond_eq_ite] at h
                split at h
                · split at h
                  · cases h
                  · rename_i v1 S1 V1 hc
                    rw [cond_eq_ite] at h
                    split at h
                    · have h1 := ai_run_mono hc
                      have h2 := ai_run_mono h
                      omega
                    · cases h
                · cases h
          · split at h
            · cases h
            · cases h
              exact ⟨Nat.le_refl _, Nat.le_refl _⟩
