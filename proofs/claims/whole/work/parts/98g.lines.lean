/-! ===== house: the lines ===== -/
abbrev btw (c : Int32) (a b : Int32) : Prop := a ≤ c ∧ c ≤ b
def wcn (T : Nat → Int32) (e : Nat) : Nat → Nat → Nat
  | 0, _ => 0
  | k + 1, i => if i < e ∧ btw (T i) 48 57 then wcn T e k (i + 1) + 1 else 0
theorem wcn_le (T : Nat → Int32) (e : Nat) : ∀ k i, wcn T e k i ≤ k := by
  intro k
  induction k with
  | zero => intro i; exact Nat.le_refl _
  | succ k ih =>
    intro i
    rw [wcn]
    by_cases h : i < e ∧ btw (T i) 48 57
    · rw [if_pos h]; have := ih (i + 1); omega
    · rw [if_neg h]; omega
theorem wcn_end (T : Nat → Int32) (e : Nat) : ∀ k i, i ≤ e → i + wcn T e k i ≤ e := by
  intro k
  induction k with
  | zero => intro i h; exact h
  | succ k ih =>
    intro i hi
    rw [wcn]
    by_cases h : i < e ∧ btw (T i) 48 57
    · rw [if_pos h]; have := ih (i + 1) (by omega); omega
    · rw [if_neg h]; omega
theorem wcn_stop (T : Nat → Int32) (e : Nat) : ∀ k i, wcn T e k i < k → ¬ (i + wcn T e k i < e ∧ btw (T (i + wcn T e k i)) 48 57) := by
  intro k
  induction k with
  | zero => intro i h; omega
  | succ k ih =>
    intro i
    rw [wcn]
    by_cases h : i < e ∧ btw (T i) 48 57
    · rw [if_pos h]
      intro hl
      have := ih (i + 1) (by omega)
      rw [show i + (wcn T e k (i + 1) + 1) = i + 1 + wcn T e k (i + 1) by omega]
      exact this
    · rw [if_neg h]
      intro _; exact h
theorem wcn_dig (T : Nat → Int32) (e : Nat) : ∀ k i j, j < wcn T e k i → btw (T (i + j)) 48 57 := by
  intro k
  induction k with
  | zero => intro i j h; exact absurd h (Nat.not_lt_zero _)
  | succ k ih =>
    intro i j
    rw [wcn]
    by_cases h : i < e ∧ btw (T i) 48 57
    · rw [if_pos h]
      intro hj
      rcases Nat.eq_zero_or_pos j with rfl | h0
      · exact h.2
      · have := ih (i + 1) (j - 1) (by omega)
        rw [show i + 1 + (j - 1) = i + j by omega] at this
        exact this
    · rw [if_neg h]; intro hj; omega
/-- one line of the house's text: how many wants, or where it fails -/
def lT (T : Nat → Int32) (e a : Nat) : Nat ⊕ Nat :=
  if a < e ∧ btw (T a) 48 53 then
    (if a + 1 < e ∧ btw (T (a + 1)) 49 57 then
      (if a + 2 < e ∧ btw (T (a + 2)) 49 57 then
        (if a + 3 < e ∧ T (a + 3) = 58 then
          (if wcn T e 12 (a + 4) = 0 then .inr (a + 4) else .inl (wcn T e 12 (a + 4)))
        else .inr (a + 3))
      else .inr (a + 2))
    else .inr (a + 1))
  else .inr a
def hP (T : Nat → Int32) (e m : Nat) : Nat → Nat → Nat → List (Nat × Nat) ⊕ Nat
  | 0, _, a => .inr a
  | k + 1, L, a => if 6 ≤ m + L then .inr a else match lT T e a with
    | .inr p => .inr p
    | .inl w => if e ≤ a + 4 + w then .inl [(a, w)] else if T (a + 4 + w) = 59 then (match hP T e m k (L + 1) (a + 4 + w + 1) with
      | .inr p => .inr p
      | .inl l => .inl ((a, w) :: l)) else .inr (a + 4 + w)
def hV (n : Nat) : List (Nat × Nat) ⊕ Nat → List (Nat × Nat) ⊕ Nat
  | .inr p => .inr p
  | .inl l => if n ≤ 76 then .inl l else .inr 76
theorem hV_y {n : Nat} (h : n ≤ 76) (l : List (Nat × Nat)) : hV n (.inl l) = .inl l := if_pos h
theorem hV_n {n : Nat} (h : ¬ n ≤ 76) (l : List (Nat × Nat)) : hV n (.inl l) = .inr 76 := if_neg h
def hVal (L : Nat) : List (Nat × Nat) ⊕ Nat → Int32
  | .inr p => -1 - on p
  | .inl l => on (L + l.length)
def hfit (s : Nat) (c : Int32) : Prop := if s = 0 then btw c 48 53 else if s = 1 ∨ s = 2 then btw c 49 57 else if s = 3 then c = 58 else if s = 4 then btw c 48 57 else (c = 59 ∨ (s < 16 ∧ btw c 48 57))
theorem lt54 {c : Int32} : c ≤ 53 ↔ c < 54 := by
  rw [ti_le, ti_lt]
  have e1 : (53 : Int32).toInt = 53 := rfl
  have e2 : (54 : Int32).toInt = 54 := rfl
  omega
theorem dig_eq (c : Int32) (V : ai_V) : (btw c 48 57 → d_Text_isDigit c V = some 1) ∧ (¬ btw c 48 57 → d_Text_isDigit c V = some 0) := by
  rw [d_Text_isDigit]
  refine ⟨fun h => ?_, fun h => ?_⟩
  · rw [if_neg (nlt.mpr h.1), if_neg (nlt.mpr h.2)]
  · by_cases a : c < 48
    · rw [if_pos a]
    · rw [if_neg a, if_pos (nle.mp (fun b => h ⟨nlt.mp a, b⟩))]
theorem fits_eq (s : Nat) (hs : s < 1000) (c : Int32) (V : ai_V) : (hfit s c → d_House_fits (on s) c V = some 1) ∧ (¬ hfit s c → d_House_fits (on s) c V = some 0) := by
  have ne : ∀ k, k < 1000 → s ≠ k → ¬ on s = on k := fun k hk hn => by rw [on_inj (by omega) (by omega)]; exact hn
  rw [d_House_fits]
  unfold hfit
  by_cases e0 : s = 0
  · subst e0
    rw [if_pos rfl, if_pos (show on 0 = (0 : Int32) from rfl)]
    refine ⟨fun h => ?_, fun h => ?_⟩
    · rw [if_neg (nlt.mpr h.1), if_neg (nle.mpr (lt54.mp h.2))]
    · by_cases a : c < 48
      · rw [if_pos a]
      · rw [if_neg a, if_pos (nlt.mp (fun b => h ⟨nlt.mp a, lt54.mpr b⟩))]
  · rw [if_neg e0, if_neg (show ¬ on s = (0 : Int32) from ne 0 (by omega) e0)]
    have K : (btw c 49 57 → (if c < (49 : Int32) then (some (0 : Int32)) else (if (57 : Int32) < c then (some (0 : Int32)) else (some (1 : Int32)))) = some 1) ∧ (¬ btw c 49 57 → (if c < (49 : Int32) then (some (0 : Int32)) else (if (57 : Int32) < c then (some (0 : Int32)) else (some (1 : Int32)))) = some 0) := by
      refine ⟨fun h => ?_, fun h => ?_⟩
      · rw [if_neg (nlt.mpr h.1), if_neg (nlt.mpr h.2)]
      · by_cases a : c < 49
        · rw [if_pos a]
        · rw [if_neg a, if_pos (nle.mp (fun b => h ⟨nlt.mp a, b⟩))]
    by_cases e1 : s = 1
    · subst e1
      rw [if_pos (Or.inl rfl), if_pos (show on 1 = (1 : Int32) from rfl)]; exact K
    · rw [if_neg (show ¬ on s = (1 : Int32) from ne 1 (by omega) e1)]
      by_cases e2 : s = 2
      · subst e2
        rw [if_pos (Or.inr rfl), if_pos (show on 2 = (2 : Int32) from rfl)]; exact K
      · rw [if_neg (show ¬ on s = (2 : Int32) from ne 2 (by omega) e2), if_neg (by omega)]
        by_cases e3 : s = 3
        · subst e3
          rw [if_pos rfl, if_pos (show on 3 = (3 : Int32) from rfl)]
          exact ⟨fun h => by rw [if_neg (fun hn => hn h)], fun h => by rw [if_pos h]⟩
        · rw [if_neg (show ¬ on s = (3 : Int32) from ne 3 (by omega) e3), if_neg e3]
          by_cases e4 : s = 4
          · subst e4
            rw [if_pos rfl, if_pos (show on 4 = (4 : Int32) from rfl)]
            exact ⟨fun h => by rw [(dig_eq c V).1 h]; rfl, fun h => by rw [(dig_eq c V).2 h]; rfl⟩
          · rw [if_neg (show ¬ on s = (4 : Int32) from ne 4 (by omega) e4), if_neg e4]
            by_cases c9 : c = 59
            · rw [if_pos c9]
              exact ⟨fun _ => rfl, fun h => absurd (Or.inl c9) h⟩
            · rw [if_neg c9]
              by_cases e16 : 16 ≤ s
              · rw [if_pos (by rw [show (16 : Int32) = on 16 from rfl, on_le (by omega) (by omega)]; exact e16)]
                refine ⟨fun h => ?_, fun _ => rfl⟩
                rcases h with h | h
                · exact absurd h c9
                · omega
              · rw [if_neg (by rw [show (16 : Int32) = on 16 from rfl, on_le (by omega) (by omega)]; exact e16)]
                refine ⟨fun h => ?_, fun h => ?_⟩
                · have hd := h.resolve_left c9
                  rw [(dig_eq c V).1 hd.2]; rfl
                · rw [(dig_eq c V).2 (fun hd => h (Or.inr ⟨by omega, hd⟩))]; rfl
theorem ln_step {V : ai_V} {n e m s L i : Nat} (q : Nat) (hn : n ≤ 80) (h1 : gi V 1 1 = on n) (h3 : gi V 3 0 = on m) (hm : m ≤ 6) (he : e ≤ n) (hi : i < e) (hs : s < 900) (hL : L < 900) :
    (¬ (hfit s (ga V 2 i) ∧ m + L ≤ 6) → d_House_linesOf_18 (q + 1) (on e) (on s) (on L) (on i) V = some (-1 - on i)) ∧
    ((hfit s (ga V 2 i) ∧ m + L ≤ 6) → ¬ ga V 2 i = 59 → d_House_linesOf_18 (q + 1) (on e) (on s) (on L) (on i) V = d_House_linesOf_18 q (on e) (on (s + 1)) (on L) (on (i + 1)) V) ∧
    ((hfit s (ga V 2 i) ∧ m + L ≤ 6) → ga V 2 i = 59 → d_House_linesOf_18 (q + 1) (on e) (on s) (on L) (on i) V = d_House_linesOf_18 q (on e) (on 0) (on (L + 1)) (on (i + 1)) V) := by
  have hf := fits_eq s (by omega) (ga V 2 i) V
  rw [d_House_linesOf_18, if_neg (by rw [on_le (by omega) (by omega)]; omega), at_y hn h1 (by omega), bd_some, h3, on_add]
  have h6 : (on (m + L) ≤ (6 : Int32)) = (m + L ≤ 6) := by rw [show (6 : Int32) = on 6 from rfl, on_le (by omega) (by omega)]
  refine ⟨fun h => ?_, fun h h9 => ?_, fun h h9 => ?_⟩
  · by_cases a : hfit s (ga V 2 i)
    · rw [hf.1 a, bd_some, if_neg (by decide), if_neg (by rw [h6]; exact fun b => h ⟨a, b⟩)]; rfl
    · rw [hf.2 a, bd_some, if_pos rfl]; rfl
  · rw [hf.1 h.1, bd_some, if_neg (by decide), if_pos (by rw [h6]; exact h.2), if_pos h9, d_House_linesOf_73, on_s, on_s]
  · rw [hf.1 h.1, bd_some, if_neg (by decide), if_pos (by rw [h6]; exact h.2), if_neg (fun hn => hn h9), d_House_linesOf_73, on_s, on_s]; rfl
theorem ln_end {V : ai_V} {n s L : Nat} (q : Nat) (hn : n ≤ 80) (h1 : gi V 1 1 = on n) (hs : s < 900) :
    d_House_linesOf_18 (q + 1) (on (min n 76)) (on s) (on L) (on (min n 76)) V = some (if n ≤ 76 ∧ 4 < s then on L else -1 - on (min n 76)) := by
  rw [d_House_linesOf_18, if_pos (Int32.le_refl _), h1, show (76 : Int32) = on 76 from rfl, show (4 : Int32) = on 4 from rfl]
  by_cases e : n ≤ 76
  · rw [if_pos (by rw [on_le (by omega) (by omega)]; exact e)]
    by_cases e4 : s ≤ 4
    · rw [if_pos (by rw [on_le (by omega) (by omega)]; exact e4), if_neg (by omega)]
    · rw [if_neg (by rw [on_le (by omega) (by omega)]; exact e4), if_pos (by omega)]
  · rw [if_neg (by rw [on_le (by omega) (by omega)]; exact e), if_neg (by omega), show min n 76 = 76 by omega]; rfl
