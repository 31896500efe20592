/-! ===== runs: steps, branches, calls, returns ===== -/
def Rn (e k pc : Nat) (l : ai_L) (st : List Value) (S : ai_S) (V : ai_V) (v : Option Value) (S' : ai_S) (V' : ai_V) : Prop := ∃ n, ai_run n e k pc l st S V = some (v, S', V')
theorem ai_run_more : ∀ {n d k pc : Nat} {l : ai_L} {st : List Value} {S : ai_S} {V : ai_V} {x : Option Value × ai_S × ai_V}, ai_run n d k pc l st S V = some x → ai_run (n + 1) d k pc l st S V = some x
  | 0, _, _, _, _, _, _, _, _, h => by cases h
  | n + 1, d, k, pc, l, st, S, V, x, h => by
    rw [ai_run] at h
    rw [ai_run]
    split at h
    · cases h
    · rename_i nx op a b y ts hat
      try simp only [hat]
      rw [cond_eq_ite] at h ⊢
      split at h
      · rename_i h70
        rw [if_pos h70]
        split at h
        · cases h
        · rename_i l1 st1 S1 V1 he
          try simp only [he]
          exact ai_run_more h
      · rename_i h70
        rw [if_neg h70]
        rw [cond_eq_ite] at h ⊢
        split at h
        · rename_i h90
          rw [if_pos h90]
          split at h
          · cases h
          · rename_i hbr
            try simp only [hbr]
            exact ai_run_more h
        · rename_i h90
          rw [if_neg h90]
          rw [cond_eq_ite] at h ⊢
          split at h
          · rename_i h94
            rw [if_pos h94]
            split at h
            · cases h
            · rename_i d'
              split at h
              · cases h
              · rename_i as rest hcall
                try simp only [hcall]
                rw [cond_eq_ite] at h ⊢
                split at h
                · rename_i hfit
                  rw [if_pos hfit]
                  split at h
                  · cases h
                  · rename_i v1 S1 V1 hsub
                    rw [ai_run_more hsub]
                    rw [cond_eq_ite] at h
                    split at h
                    · rename_i hfs
                      show (bif _ then _ else _) = _
                      rw [cond_eq_ite, if_pos hfs]
                      exact ai_run_more h
                    · cases h
                · cases h
          · rename_i h94
            rw [if_neg h94]
            exact h
theorem ai_run_le {n m d k pc : Nat} {l : ai_L} {st : List Value} {S : ai_S} {V : ai_V} {x : Option Value × ai_S × ai_V} (hle : n ≤ m) (h : ai_run n d k pc l st S V = some x) : ai_run m d k pc l st S V = some x := by
  induction hle with
  | refl => exact h
  | step _ ih => exact ai_run_more ih
def ai_go : Nat → Nat → Nat → ai_L → List Value → ai_S → ai_V → Option (Nat × ai_L × List Value × ai_S × ai_V)
  | 0, _, pc, l, st, S, V => some (pc, l, st, S, V)
  | j + 1, k, pc, l, st, S, V => match ai_at (ai_C k) pc with
    | none => none
    | some (nx, op, a, b, x, _) => cond (Nat.blt op 70)
      (match ai_ex ai_F op a b x l st S V with
      | none => none
      | some (l', st', S', V') => ai_go j k nx l' st' S' V')
      none
section RN
variable {e k pc nx op a b : Nat} {x : Int32} {ts : List (Int32 × Nat)} {l l' : ai_L} {st st' : List Value} {S S1 S' : ai_S} {V V1 V' : ai_V} {v : Option Value}
theorem rn_ex (hat : ai_at (ai_C k) pc = some (nx, op, a, b, x, ts)) (hop : Nat.blt op 70 = true) (he : ai_ex ai_F op a b x l st S V = some (l', st', S1, V1)) (h : Rn e k nx l' st' S1 V1 v S' V') : Rn e k pc l st S V v S' V' := by
  obtain ⟨n, h⟩ := h
  refine ⟨n + 1, ?_⟩
  rw [ai_run]
  simp only [hat, hop, cond_true, he]
  exact h
theorem rn_go (j : Nat) {pc' : Nat} (hg : ai_go j k pc l st S V = some (pc', l', st', S1, V1)) (h : Rn e k pc' l' st' S1 V1 v S' V') : Rn e k pc l st S V v S' V' := by
  induction j generalizing pc l st S V with
  | zero =>
    cases hg
    exact h
  | succ j ih =>
    rw [ai_go] at hg
    split at hg
    · cases hg
    · rename_i nx op a b x ts hat
      rw [cond_eq_ite] at hg
      split at hg
      · rename_i h70
        split at hg
        · cases hg
        · rename_i he
          exact rn_ex hat h70 he (ih hg)
      · cases hg
theorem rn_br {pc' : Nat} (hat : ai_at (ai_C k) pc = some (nx, op, a, b, x, ts)) (h70 : Nat.blt op 70 = false) (h90 : Nat.blt op 90 = true) (hbr : ai_br op a b nx ts st S = some (pc', st')) (h : Rn e k pc' l st' S V v S' V') : Rn e k pc l st S V v S' V' := by
  obtain ⟨n, h⟩ := h
  refine ⟨n + 1, ?_⟩
  rw [ai_run]
  simp only [hat, h70, h90, cond_true, cond_false, hbr]
  exact h
theorem rn_brT {c : Prop} [Decidable c] {t f : Nat} (hat : ai_at (ai_C k) pc = some (nx, op, a, b, x, ts)) (h70 : Nat.blt op 70 = false) (h90 : Nat.blt op 90 = true) (hbr : ai_br op a b nx ts st S = some (if c then t else f, st')) (hc : c) (h : Rn e k t l st' S V v S' V') : Rn e k pc l st S V v S' V' :=
  rn_br hat h70 h90 (by rw [if_pos hc] at hbr; exact hbr) h
theorem rn_brF {c : Prop} [Decidable c] {t f : Nat} (hat : ai_at (ai_C k) pc = some (nx, op, a, b, x, ts)) (h70 : Nat.blt op 70 = false) (h90 : Nat.blt op 90 = true) (hbr : ai_br op a b nx ts st S = some (if c then t else f, st')) (hc : ¬ c) (h : Rn e k f l st' S V v S' V') : Rn e k pc l st S V v S' V' :=
  rn_br hat h70 h90 (by rw [if_neg hc] at hbr; exact hbr) h
theorem ai_sel_t {q : Int32 × Nat} {ts : List (Int32 × Nat)} {d : Nat} {x : Int32} (h : x = q.1) : ai_sel (q :: ts) d x = q.2 := by rw [ai_sel, if_pos h]
theorem ai_sel_f {q : Int32 × Nat} {ts : List (Int32 × Nat)} {d t : Nat} {x : Int32} (h : ¬ x = q.1) (h2 : ai_sel ts d x = t) : ai_sel (q :: ts) d x = t := by rw [ai_sel, if_neg h]; exact h2
theorem rn_sw {t : Nat} {y : Int32} (hat : ai_at (ai_C k) pc = some (nx, op, a, b, x, ts)) (h70 : Nat.blt op 70 = false) (h90 : Nat.blt op 90 = true) (hbr : ai_br op a b nx ts st S = some (ai_sel ts a y, st')) (hs : ai_sel ts a y = t) (h : Rn e k t l st' S V v S' V') : Rn e k pc l st S V v S' V' :=
  rn_br hat h70 h90 (by rw [hs] at hbr; exact hbr) h
theorem rn_call {as rest : List Value} {w : Option Value} (hat : ai_at (ai_C k) pc = some (nx, op, a, b, x, ts)) (h70 : Nat.blt op 70 = false) (h90 : Nat.blt op 90 = false) (h94 : Nat.blt op 94 = true) (hcall : ai_call op b st S = some (as, rest)) (hfit : ai_fit b as rest = true) (he : 1 ≤ e) (hsub : Rn (e - 1) b 0 (lv_args 0 as) [] S V w S V1) (h : Rn e k nx l (w.toList ++ rest) S V1 v S' V') : Rn e k pc l st S V v S' V' := by
  obtain ⟨n1, h1⟩ := hsub
  obtain ⟨n2, h2⟩ := h
  refine ⟨max n1 n2 + 1, ?_⟩
  obtain ⟨e', rfl⟩ : ∃ e', e = e' + 1 := ⟨e - 1, by omega⟩
  rw [Nat.add_sub_cancel] at h1
  rw [ai_run]
  simp only [hat, h70, h90, h94, cond_true, cond_false, hcall, hfit, ai_run_le (Nat.le_max_left n1 n2) h1]
  have hb : (Nat.beq S.length S.length || ai_fs S.length l rest) = true := by rw [Bool.or_eq_true]; exact Or.inl (Nat.beq_refl _)
  rw [hb, cond_true]
  exact ai_run_le (Nat.le_max_right n1 n2) h2
theorem rn_ret (hat : ai_at (ai_C k) pc = some (nx, op, a, b, x, ts)) (h94 : (Nat.blt op 70 || Nat.blt op 90 || Nat.blt op 94) = false) (hr : ai_ret op st = some v) : Rn e k pc l st S V v S V := by
  refine ⟨1, ?_⟩
  simp only [Bool.or_eq_false_iff] at h94
  rw [ai_run]
  simp only [hat, h94.1.1, h94.1.2, h94.2, cond_false, hr]
theorem ai_if {c : Prop} [Decidable c] {α : Type} {A B r : α} (h : (if c then A else B) = r) : (c ∧ A = r) ∨ (¬ c ∧ B = r) := by
  by_cases hc : c
  · rw [if_pos hc] at h; exact Or.inl ⟨hc, h⟩
  · rw [if_neg hc] at h; exact Or.inr ⟨hc, h⟩
theorem ai_gd {c : Prop} [Decidable c] {α : Type} {A : Option α} {r : α} (h : (if c then A else none) = some r) : c ∧ A = some r := by
  by_cases hc : c
  · rw [if_pos hc] at h; exact ⟨hc, h⟩
  · rw [if_neg hc] at h; cases h
theorem ai_gn {c : Prop} [Decidable c] {α : Type} {A : Option α} {r : α} (h : (if c then none else A) = some r) : ¬ c ∧ A = some r := by
  by_cases hc : c
  · rw [if_pos hc] at h; cases h
  · rw [if_neg hc] at h; exact ⟨hc, h⟩
theorem ai_bd {α β : Type} {x : Option α} {f : α → Option β} {r : β} (h : x.bind f = some r) : ∃ q, x = some q ∧ f q = some r := Option.bind_eq_some_iff.mp h
/-- fewer locals do as well -/
def ai_uq (l : ai_L) : Prop := ∀ q ∈ l, ∀ q' ∈ l, q.1 = q'.1 → q = q'
theorem ai_get_of {l : ai_L} (hu : ai_uq l) {i : Nat} {v : Value} (h : (i, v) ∈ l) : ai_get l i = some v := by
  have key : ∀ (l0 : ai_L), (∀ q ∈ l0, q ∈ l) → (i, v) ∈ l0 → ai_get l0 i = some v := by
    intro l0
    induction l0 with
    | nil => intro _ h; cases h
    | cons q l0 ih =>
      intro hs hm
      rw [ai_get]
      cases hb : Nat.beq q.1 i with
      | true =>
        have hq : q.1 = i := Nat.eq_of_beq_eq_true hb
        have := hu q (hs q List.mem_cons_self) (i, v) h hq
        rw [cond_true, this]
      | false =>
        rw [cond_false]
        rcases List.mem_cons.mp hm with hq | hm
        · rw [← hq] at hb
          rw [Nat.beq_refl] at hb
          cases hb
        · exact ih (fun q hq => hs q (List.mem_cons_of_mem _ hq)) hm
  exact key l (fun _ h => h) h
theorem ai_uq_st1 {l : ai_L} (hu : ai_uq l) (i : Nat) (v : Value) : ai_uq (ai_st1 l i v) := by
  intro q hq q' hq' he
  simp only [ai_st1, List.mem_cons, List.mem_filter, Bool.and_eq_true, Bool.not_eq_true', beq_eq_false_iff_ne] at hq hq'
  rcases hq with rfl | ⟨h1, h2⟩ <;> rcases hq' with rfl | ⟨h3, h4⟩
  · rfl
  · exact absurd he.symm h4.1
  · exact absurd he h2.1
  · exact hu q h1 q' h3 he
theorem ai_uq_st2 {l : ai_L} (hu : ai_uq l) (i : Nat) (v : Value) : ai_uq (ai_st2 l i v) := by
  intro q hq q' hq' he
  simp only [ai_st2, List.mem_cons, List.mem_filter, Bool.and_eq_true, Bool.not_eq_true', beq_eq_false_iff_ne] at hq hq'
  rcases hq with rfl | ⟨h1, h2⟩ <;> rcases hq' with rfl | ⟨h3, h4⟩
  · rfl
  · exact absurd he.symm h4.1
  · exact absurd he h2.1
  · exact hu q h1 q' h3 he
theorem ai_sub_st1 {lc l : ai_L} (h : ∀ q ∈ lc, q ∈ l) (i : Nat) (v : Value) : ∀ q ∈ ai_st1 lc i v, q ∈ ai_st1 l i v := by
  intro q hq
  rcases List.mem_cons.mp hq with hq | hq
  · exact List.mem_cons.mpr (Or.inl hq)
  · obtain ⟨h1, h2⟩ := List.mem_filter.mp hq
    exact List.mem_cons.mpr (Or.inr (List.mem_filter.mpr ⟨h q h1, h2⟩))
theorem ai_sub_st2 {lc l : ai_L} (h : ∀ q ∈ lc, q ∈ l) (i : Nat) (v : Value) : ∀ q ∈ ai_st2 lc i v, q ∈ ai_st2 l i v := by
  intro q hq
  rcases List.mem_cons.mp hq with hq | hq
  · exact List.mem_cons.mpr (Or.inl hq)
  · obtain ⟨h1, h2⟩ := List.mem_filter.mp hq
    exact List.mem_cons.mpr (Or.inr (List.mem_filter.mpr ⟨h q h1, h2⟩))
theorem ai_ex_sub {lc lc' l : ai_L} (hs : op ≠ 65 ∧ op ≠ 66 ∧ op ≠ 67) (he : ai_ex ai_F op a b x lc st S V = some (lc', st', S', V')) (hsub : ∀ q ∈ lc, q ∈ l) (hu : ai_uq l) : ∃ l', ai_ex ai_F op a b x l st S V = some (l', st', S', V') ∧ (∀ q ∈ lc', q ∈ l') ∧ ai_uq l' := by
  have ld : ∀ {P : Value → Bool}, ai_ld P a lc st S V = some (lc', st', S', V') → ∃ l', ai_ld P a l st S V = some (l', st', S', V') ∧ (∀ q ∈ lc', q ∈ l') ∧ ai_uq l' := by
    intro P h
    unfold ai_ld at h
    split at h
    · rename_i v hv
      rw [cond_eq_ite] at h
      split at h
      · rename_i hp
        cases h
        refine ⟨l, ?_, hsub, hu⟩
        unfold ai_ld
        rw [ai_get_of hu (hsub _ (ai_get_mem hv))]
        simp only [hp, cond_true]
      · cases h
    · cases h
  have s1 : ∀ {P : Value → Bool}, ai_str P ai_st1 a lc st S V = some (lc', st', S', V') → ∃ l', ai_str P ai_st1 a l st S V = some (l', st', S', V') ∧ (∀ q ∈ lc', q ∈ l') ∧ ai_uq l' := by
    intro P h
    unfold ai_str at h ⊢
    split at h
    · rename_i v st0
      rw [cond_eq_ite] at h
      split at h
      · rename_i hp
        cases h
        exact ⟨_, by simp only [hp, cond_true], ai_sub_st1 hsub _ _, ai_uq_st1 hu _ _⟩
      · cases h
    · cases h
  have s2 : ∀ {P : Value → Bool}, ai_str P ai_st2 a lc st S V = some (lc', st', S', V') → ∃ l', ai_str P ai_st2 a l st S V = some (l', st', S', V') ∧ (∀ q ∈ lc', q ∈ l') ∧ ai_uq l' := by
    intro P h
    unfold ai_str at h ⊢
    split at h
    · rename_i v st0
      rw [cond_eq_ite] at h
      split at h
      · rename_i hp
        cases h
        exact ⟨_, by simp only [hp, cond_true], ai_sub_st2 hsub _ _, ai_uq_st2 hu _ _⟩
      · cases h
    · cases h
  have ic : ai_inc a x lc st S V = some (lc', st', S', V') → ∃ l', ai_inc a x l st S V = some (l', st', S', V') ∧ (∀ q ∈ lc', q ∈ l') ∧ ai_uq l' := by
    intro h
    unfold ai_inc at h
    split at h
    · rename_i y hy
      cases h
      refine ⟨ai_st1 l a (.int (y + x)), ?_, ai_sub_st1 hsub _ _, ai_uq_st1 hu _ _⟩
      unfold ai_inc
      rw [ai_get_of hu (hsub _ (ai_get_mem hy))]
    · cases h
  unfold ai_ex at he ⊢
  split at he
  all_goals first
    | exact absurd rfl hs.1
    | exact absurd rfl hs.2.1
    | exact absurd rfl hs.2.2
    | exact ld he
    | exact s1 he
    | exact s2 he
    | exact ic he
    | (cases he; exact ⟨_, rfl, hsub, hu⟩)
    | skip
  all_goals try simp only [ai_x1, ai_xb, ai_mI, ai_mJ, ai_arith, ai_arith1, ai_arithL, ai_stk, ai_gf, ai_pI, ai_pZ, ai_pJ, ai_pA, ai_ldi, ai_ldl, ai_lda, ai_sti, ai_stl, ai_sta, ai_len, ai_acp, cond_eq_ite] at he ⊢
  all_goals try (repeat' split at he)
  all_goals first
    | (cases he; done)
    | (cases he; refine ⟨_, rfl, hsub, hu⟩)
    | (rw [Option.bind_eq_some_iff] at he; obtain ⟨z, hz, he⟩ := he; cases he; exact ⟨_, by rw [hz]; rfl, hsub, hu⟩)
    | (cases he; refine ⟨l, ?_, hsub, hu⟩; simp_all)
    | skip
theorem ai_run_sub : ∀ {n d k pc : Nat} {lc l : ai_L} {st : List Value} {S S' : ai_S} {V V' : ai_V} {v : Option Value}, ai_run n d k pc lc st S V = some (v, S', V') → S'.length = S.length → (∀ q ∈ lc, q ∈ l) → ai_uq l → ai_run n d k pc l st S V = some (v, S', V')
  | 0, _, _, _, _, _, _, _, _, _, _, _, h, _, _, _ => by cases h
  | n + 1, d, k, pc, lc, l, st, S, S', V, V', v, h, hS, hsub, hu => by
    rw [ai_run] at h
    rw [ai_run]
    split at h
    · cases h
    · rename_i nx op a b y ts hat
      try simp only [hat]
      rw [cond_eq_ite] at h ⊢
      split at h
      · rename_i h70
        rw [if_pos h70]
        split at h
        · cases h
        · rename_i l1 st1 S1 V1 he
          have m1 := ai_run_mono h
          have m2 := ai_ex_mono he
          have hs : op ≠ 65 ∧ op ≠ 66 ∧ op ≠ 67 := by
            refine ⟨?_, ?_, ?_⟩
            · rintro rfl
              obtain ⟨e1, -⟩ := ai_newO_len (show ai_newO b (ai_F b) lc st S V = _ from he)
              rw [e1] at m1
              simp at m1
              omega
            · rintro rfl
              obtain ⟨-, -, e, -, e1, -⟩ := ai_newA_len (show ai_newA b lc st S V = _ from he)
              rw [e1] at m1
              simp at m1
              omega
            · rintro rfl
              obtain ⟨-, -, e, -, e1, -⟩ := ai_newR_len (show ai_newR 4 lc st S V = _ from he)
              rw [e1] at m1
              simp at m1
              omega
          obtain ⟨l2, he2, hsub2, hu2⟩ := ai_ex_sub hs he hsub hu
          try simp only [he2]
          exact ai_run_sub h (by omega) hsub2 hu2
      · rename_i h70
        rw [if_neg h70]
        rw [cond_eq_ite] at h ⊢
        split at h
        · rename_i h90
          rw [if_pos h90]
          split at h
          · cases h
          · rename_i hbr
            try simp only [hbr]
            exact ai_run_sub h hS hsub hu
        · rename_i h90
          rw [if_neg h90]
          rw [cond_eq_ite] at h ⊢
          split at h
          · rename_i h94
            rw [if_pos h94]
            split at h
            · cases h
            · rename_i d'
              split at h
              · cases h
              · rename_i as rest hcall
                try simp only [hcall]
                rw [cond_eq_ite] at h ⊢
                split at h
                · rename_i hfit
                  rw [if_pos hfit]
                  split at h
                  · cases h
                  · rename_i v1 S1 V1 hc1
                    try simp only [hc1]
                    rw [cond_eq_ite] at h ⊢
                    split at h
                    · rename_i hfs
                      have m1 := ai_run_mono hc1
                      have m2 := ai_run_mono h
                      have hl1 : S1.length = S.length := by omega
                      rw [if_pos (by rw [hl1, Nat.beq_refl]; rfl)]
                      exact ai_run_sub h (by omega) hsub hu
                    · cases h
                · cases h
          · rename_i h94
            rw [if_neg h94]
            exact h
theorem rn_sub {lc : ai_L} (ps : List Nat) (h1 : lv_pick l ps = lc) (h2 : va_nd (l.map (fun q => q.1)) = true) (h : Rn e k pc lc st S V v S V') : Rn e k pc l st S V v S V' := by
  obtain ⟨n, h⟩ := h
  refine ⟨n, ai_run_sub h rfl ?_ ?_⟩
  · intro q hq
    rw [← h1] at hq
    obtain ⟨i, -, hi⟩ := List.mem_filterMap.mp hq
    exact List.mem_of_getElem? hi
  · intro q hq q' hq' he
    obtain ⟨i, hi⟩ := List.getElem?_of_mem hq
    obtain ⟨j, hj⟩ := List.getElem?_of_mem hq'
    have := va_nd_inj _ h2 i j q.1 (by rw [List.getElem?_map, hi]; rfl) (by rw [List.getElem?_map, hj, he]; rfl)
    subst this
    rw [hi] at hj
    exact Option.some.inj hj
end RN
section RG
variable {e k pc nx a b n o : Nat} {x i y z : Int32} {u w : Int64} {ts : List (Int32 × Nat)} {l : ai_L} {st : List Value} {S S' : ai_S} {V V' : ai_V} {v : Option Value}
theorem rg_iald (hat : ai_at (ai_C k) pc = some (nx, 54, a, b, x, ts)) (hS : ai_ai S o 0 = some n) (hg : ai_in i n) (h : Rn e k nx l (.int (ga V o i.toNatClampNeg) :: st) S V v S' V') : Rn e k pc l (.int i :: .ref o :: st) S V v S' V' :=
  rn_ex hat rfl (by simp only [ai_ex, ai_ldi, hS, if_pos hg]) h
theorem rg_bald (hat : ai_at (ai_C k) pc = some (nx, 56, a, b, x, ts)) (hS : ai_ai S o 2 = some n) (hg : ai_in i n) (h : Rn e k nx l (.int (ga V o i.toNatClampNeg) :: st) S V v S' V') : Rn e k pc l (.int i :: .ref o :: st) S V v S' V' :=
  rn_ex hat rfl (by simp only [ai_ex, ai_ldi, hS, if_pos hg]) h
theorem rg_zald (hat : ai_at (ai_C k) pc = some (nx, 57, a, b, x, ts)) (hS : ai_ai S o 3 = some n) (hg : ai_in i n) (h : Rn e k nx l (.int (ga V o i.toNatClampNeg) :: st) S V v S' V') : Rn e k pc l (.int i :: .ref o :: st) S V v S' V' :=
  rn_ex hat rfl (by simp only [ai_ex, ai_ldi, hS, if_pos hg]) h
theorem rg_lald (hat : ai_at (ai_C k) pc = some (nx, 55, a, b, x, ts)) (hS : ai_al S o 1 = some n) (hg : ai_in i n) (h : Rn e k nx l (.long (gl V o i.toNatClampNeg) :: st) S V v S' V') : Rn e k pc l (.int i :: .ref o :: st) S V v S' V' :=
  rn_ex hat rfl (by simp only [ai_ex, ai_ldl, hS, if_pos hg]) h
theorem rg_aald {f : Nat → Option Nat} {q : Nat} (hat : ai_at (ai_C k) pc = some (nx, 58, a, b, x, ts)) (hS : ai_ar S o 4 = some (n, f)) (hg : ai_in i n) (hf : f i.toNatClampNeg = some q) (h : Rn e k nx l (.ref q :: st) S V v S' V') : Rn e k pc l (.int i :: .ref o :: st) S V v S' V' :=
  rn_ex hat rfl (by simp only [ai_ex, ai_lda, hS, if_pos hg, hf, va_rf]) h
theorem rg_iast (hat : ai_at (ai_C k) pc = some (nx, 59, a, b, x, ts)) (hS : ai_ai S o 0 = some n) (hg : ai_in i n) (h : Rn e k nx l st S (sa V o i.toNatClampNeg y) v S' V') : Rn e k pc l (.int y :: .int i :: .ref o :: st) S V v S' V' :=
  rn_ex hat rfl (by simp only [ai_ex, ai_sti, hS, if_pos hg]) h
theorem rg_bast (hat : ai_at (ai_C k) pc = some (nx, 61, a, b, x, ts)) (hS : ai_ai S o 2 = some n) (hg : ai_in i n) (h : Rn e k nx l st S (sa V o i.toNatClampNeg (vp_nar .byte y)) v S' V') : Rn e k pc l (.int y :: .int i :: .ref o :: st) S V v S' V' :=
  rn_ex hat rfl (by simp only [ai_ex, ai_sti, hS, if_pos hg]) h
theorem rg_zast (hat : ai_at (ai_C k) pc = some (nx, 62, a, b, x, ts)) (hS : ai_ai S o 3 = some n) (hg : ai_in i n) (h : Rn e k nx l st S (sa V o i.toNatClampNeg (vp_nar .boolean y)) v S' V') : Rn e k pc l (.int y :: .int i :: .ref o :: st) S V v S' V' :=
  rn_ex hat rfl (by simp only [ai_ex, ai_sti, hS, if_pos hg]) h
theorem rg_last (hat : ai_at (ai_C k) pc = some (nx, 60, a, b, x, ts)) (hS : ai_al S o 1 = some n) (hg : ai_in i n) (h : Rn e k nx l st S (sl V o i.toNatClampNeg u) v S' V') : Rn e k pc l (.long u :: .int i :: .ref o :: st) S V v S' V' :=
  rn_ex hat rfl (by simp only [ai_ex, ai_stl, hS, if_pos hg]) h
theorem rg_idiv (hat : ai_at (ai_C k) pc = some (nx, 20, a, 29, x, ts)) (hg : ¬ y = 0) (h : Rn e k nx l (.int (i / y) :: st) S V v S' V') : Rn e k pc l (.int y :: .int i :: st) S V v S' V' :=
  rn_ex hat rfl (by simp only [ai_ex, ai_arith, ai_bin, if_neg hg, Option.bind_some]) h
theorem rg_irem (hat : ai_at (ai_C k) pc = some (nx, 20, a, 30, x, ts)) (hg : ¬ y = 0) (h : Rn e k nx l (.int (i - i / y * y) :: st) S V v S' V') : Rn e k pc l (.int y :: .int i :: st) S V v S' V' :=
  rn_ex hat rfl (by simp only [ai_ex, ai_arith, ai_bin, if_neg hg, Option.bind_some]) h
theorem rg_ldiv (hat : ai_at (ai_C k) pc = some (nx, 35, a, 38, x, ts)) (hg : ¬ w = 0) (h : Rn e k nx l (.long (u / w) :: st) S V v S' V') : Rn e k pc l (.long w :: .long u :: st) S V v S' V' :=
  rn_ex hat rfl (by simp only [ai_ex, ai_arithL, ai_bil, if_neg hg, Option.bind_some]) h
theorem rg_lrem (hat : ai_at (ai_C k) pc = some (nx, 35, a, 39, x, ts)) (hg : ¬ w = 0) (h : Rn e k nx l (.long (u - u / w * w) :: st) S V v S' V') : Rn e k pc l (.long w :: .long u :: st) S V v S' V' :=
  rn_ex hat rfl (by simp only [ai_ex, ai_arithL, ai_bil, if_neg hg, Option.bind_some]) h
theorem rg_gfr {fs : List Value} {z : UInt64} {q : Nat} (hat : ai_at (ai_C k) pc = some (nx, 48, a, b, x, ts)) (hS : ai_ob S o (b / 100) = some fs) (hk : fs[b % 100]? = some (.double z)) (hr : gr V o (b % 100) = some q) (h : Rn e k nx l (.ref q :: st) S V v S' V') : Rn e k pc l (.ref o :: st) S V v S' V' :=
  rn_ex hat rfl (by simp only [ai_ex, ai_gf, hS, hk, ai_fv, hr, va_rf]) h
theorem rg_acp {q n1 : Nat} {sp dp m : Int32} (hat : ai_at (ai_C k) pc = some (nx, 69, a, b, x, ts)) (hS : ai_ai S o 0 = some n) (hS1 : ai_ai S q 0 = some n1) (hst : (st.map fun v => v.category).sum ≤ 8) (hg : 0 ≤ sp ∧ 0 ≤ dp ∧ 0 ≤ m ∧ sp.toNatClampNeg + m.toNatClampNeg ≤ n ∧ dp.toNatClampNeg + m.toNatClampNeg ≤ n1) (h : Rn e k nx l st S (ai_cpy V o q sp.toNatClampNeg dp.toNatClampNeg m.toNatClampNeg) v S' V') : Rn e k pc l (.int m :: .int dp :: .ref q :: .int sp :: .ref o :: st) S V v S' V' :=
  rn_ex hat rfl (by simp only [ai_ex, ai_acp, hS, hS1, if_pos (show 0 ≤ sp ∧ 0 ≤ dp ∧ 0 ≤ m ∧ sp.toNatClampNeg + m.toNatClampNeg ≤ n ∧ dp.toNatClampNeg + m.toNatClampNeg ≤ n1 ∧ (st.map fun v => v.category).sum ≤ 8 from ⟨hg.1, hg.2.1, hg.2.2.1, hg.2.2.2.1, hg.2.2.2.2, hst⟩)]) h
theorem rg_pZ {fs : List Value} {z : Int32} (hat : ai_at (ai_C k) pc = some (nx, 50, a, b, x, ts)) (hS : ai_ob S o (b / 100) = some fs) (hk : fs[b % 100]? = some (.int z)) (hg : y = 0 ∨ y = 1) (h : Rn e k nx l st S (si V o (b % 100) y) v S' V') : Rn e k pc l (.int y :: .ref o :: st) S V v S' V' :=
  rn_ex hat rfl (by simp only [ai_ex, ai_pZ, hS, hk, if_pos hg]) h
theorem rg_xb (hat : ai_at (ai_C k) pc = some (nx, 21, a, b, x, ts)) (hg : ai_in i 7) (h : Rn e k nx l (.int (ai_sb i.toNatClampNeg) :: st) S V v S' V') : Rn e k pc l (.int i :: .ref 999998 :: st) S V v S' V' :=
  rn_ex hat rfl (by show (if ai_in i 7 then _ else _) = _; rw [if_pos hg]) h
theorem rg_bret (hat : ai_at (ai_C k) pc = some (nx, 99, a, b, x, ts)) (hg : y = 0) : Rn e k pc l [.int y] S V (some (.int y)) S V :=
  rn_ret hat rfl (by simp only [ai_ret, if_pos hg])
theorem rg_zret (hat : ai_at (ai_C k) pc = some (nx, 95, a, b, x, ts)) (hg : y = 0 ∨ y = 1) : Rn e k pc l [.int y] S V (some (.int y)) S V :=
  rn_ret hat rfl (by simp only [ai_ret, if_pos hg])
end RG
def ai_N : Nat := 20000
