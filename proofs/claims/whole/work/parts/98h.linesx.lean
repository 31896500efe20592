/-! ===== house: the class counts the lines ===== -/
theorem n59 {c : Int32} (h : c ≤ 57) : ¬ c = 59 := fun e => by rw [e] at h; exact absurd h (by decide)
theorem ln_wants {V : ai_V} {n e m L : Nat} (hn : n ≤ 80) (h1 : gi V 1 1 = on n) (h3 : gi V 3 0 = on m) (hm : m ≤ 6) (he : e ≤ n) (hL : m + L ≤ 6) : ∀ (k s j q : Nat), 4 ≤ s → s + k = 16 → j ≤ e → e - j < q →
    ∃ q', e - (j + wcn (ga V 2) e k j) < q' ∧ d_House_linesOf_18 q (on e) (on s) (on L) (on j) V = d_House_linesOf_18 q' (on e) (on (s + wcn (ga V 2) e k j)) (on L) (on (j + wcn (ga V 2) e k j)) V := by
  intro k
  induction k with
  | zero => intro s j q _ _ _ hq; exact ⟨q, hq, rfl⟩
  | succ k ih =>
    intro s j q h4 hs hj hq
    rw [wcn]
    by_cases h : j < e ∧ btw (ga V 2 j) 48 57
    · rw [if_pos h]
      obtain ⟨q, rfl⟩ : ∃ q', q = q' + 1 := ⟨q - 1, by omega⟩
      have hf : hfit s (ga V 2 j) := by
        unfold hfit
        rw [if_neg (by omega), if_neg (by omega), if_neg (by omega)]
        by_cases e4 : s = 4
        · rw [if_pos e4]; exact h.2
        · rw [if_neg e4]; exact Or.inr ⟨by omega, h.2⟩
      obtain ⟨q', a, b⟩ := ih (s + 1) (j + 1) q (by omega) (by omega) (by omega) (by omega)
      refine ⟨q', by omega, ?_⟩
      rw [(ln_step q hn h1 h3 hm he h.1 (by omega) (by omega)).2.1 ⟨hf, hL⟩ (n59 h.2.2), b]
      rw [show s + 1 + wcn (ga V 2) e k (j + 1) = s + (wcn (ga V 2) e k (j + 1) + 1) by omega, show j + 1 + wcn (ga V 2) e k (j + 1) = j + (wcn (ga V 2) e k (j + 1) + 1) by omega]
    · rw [if_neg h]; exact ⟨q, hq, rfl⟩
theorem lT_cases (T : Nat → Int32) (e a : Nat) :
    (¬ (a < e ∧ btw (T a) 48 53) ∧ lT T e a = .inr a) ∨
    ((a < e ∧ btw (T a) 48 53) ∧ ¬ (a + 1 < e ∧ btw (T (a + 1)) 49 57) ∧ lT T e a = .inr (a + 1)) ∨
    ((a < e ∧ btw (T a) 48 53) ∧ (a + 1 < e ∧ btw (T (a + 1)) 49 57) ∧ ¬ (a + 2 < e ∧ btw (T (a + 2)) 49 57) ∧ lT T e a = .inr (a + 2)) ∨
    ((a < e ∧ btw (T a) 48 53) ∧ (a + 1 < e ∧ btw (T (a + 1)) 49 57) ∧ (a + 2 < e ∧ btw (T (a + 2)) 49 57) ∧ ¬ (a + 3 < e ∧ T (a + 3) = 58) ∧ lT T e a = .inr (a + 3)) ∨
    ((a < e ∧ btw (T a) 48 53) ∧ (a + 1 < e ∧ btw (T (a + 1)) 49 57) ∧ (a + 2 < e ∧ btw (T (a + 2)) 49 57) ∧ (a + 3 < e ∧ T (a + 3) = 58) ∧ wcn T e 12 (a + 4) = 0 ∧ lT T e a = .inr (a + 4)) ∨
    ((a < e ∧ btw (T a) 48 53) ∧ (a + 1 < e ∧ btw (T (a + 1)) 49 57) ∧ (a + 2 < e ∧ btw (T (a + 2)) 49 57) ∧ (a + 3 < e ∧ T (a + 3) = 58) ∧ wcn T e 12 (a + 4) ≠ 0 ∧ lT T e a = .inl (wcn T e 12 (a + 4))) := by
  unfold lT
  by_cases c0 : a < e ∧ btw (T a) 48 53
  · rw [if_pos c0]
    by_cases c1 : a + 1 < e ∧ btw (T (a + 1)) 49 57
    · rw [if_pos c1]
      by_cases c2 : a + 2 < e ∧ btw (T (a + 2)) 49 57
      · rw [if_pos c2]
        by_cases c3 : a + 3 < e ∧ T (a + 3) = 58
        · rw [if_pos c3]
          by_cases c4 : wcn T e 12 (a + 4) = 0
          · rw [if_pos c4]; exact Or.inr (Or.inr (Or.inr (Or.inr (Or.inl ⟨c0, c1, c2, c3, c4, rfl⟩))))
          · rw [if_neg c4]; exact Or.inr (Or.inr (Or.inr (Or.inr (Or.inr ⟨c0, c1, c2, c3, c4, rfl⟩))))
        · rw [if_neg c3]; exact Or.inr (Or.inr (Or.inr (Or.inl ⟨c0, c1, c2, c3, rfl⟩)))
      · rw [if_neg c2]; exact Or.inr (Or.inr (Or.inl ⟨c0, c1, c2, rfl⟩))
    · rw [if_neg c1]; exact Or.inr (Or.inl ⟨c0, c1, rfl⟩)
  · rw [if_neg c0]; exact Or.inl ⟨c0, rfl⟩
theorem hP_full {T : Nat → Int32} {e m L a : Nat} (k : Nat) (h : 6 ≤ m + L) : hP T e m (k + 1) L a = .inr a := by rw [hP, if_pos h]
theorem hP_bad {T : Nat → Int32} {e m L a p : Nat} (k : Nat) (h : ¬ 6 ≤ m + L) (d : lT T e a = .inr p) : hP T e m (k + 1) L a = .inr p := by rw [hP, if_neg h, d]
theorem hP_go {T : Nat → Int32} {e m L a w : Nat} (k : Nat) (h : ¬ 6 ≤ m + L) (d : lT T e a = .inl w) : hP T e m (k + 1) L a = if e ≤ a + 4 + w then .inl [(a, w)] else if T (a + 4 + w) = 59 then (match hP T e m k (L + 1) (a + 4 + w + 1) with | .inr p => .inr p | .inl l => .inl ((a, w) :: l)) else .inr (a + 4 + w) := by
  rw [hP, if_neg h, d]; rfl
theorem lines_eq {V : ai_V} {n m : Nat} (hn : n ≤ 80) (h1 : gi V 1 1 = on n) (h3 : gi V 3 0 = on m) (hm : m ≤ 6) : ∀ (k L a q : Nat), L ≤ 7 → a ≤ min n 76 → min n 76 - a < k → min n 76 - a < q →
    d_House_linesOf_18 q (on (min n 76)) (on 0) (on (L + 1)) (on a) V = some (hVal L (hV n (hP (ga V 2) (min n 76) m k L a))) := by
  intro k
  induction k with
  | zero => intro L a q _ _ h; omega
  | succ k ih =>
    intro L a q hL ha hk hq
    have stop : ∀ (s j r : Nat), s ≤ 4 → j ≤ min n 76 → min n 76 - j < r → (j < min n 76 → ¬ (hfit s (ga V 2 j) ∧ m + (L + 1) ≤ 6)) → d_House_linesOf_18 r (on (min n 76)) (on s) (on (L + 1)) (on j) V = some (-1 - on j) := by
      intro s j r hs hj hr hf
      obtain ⟨r, rfl⟩ : ∃ r', r = r' + 1 := ⟨r - 1, by omega⟩
      by_cases ej : j < min n 76
      · exact (ln_step r hn h1 h3 hm (by omega) ej (by omega) (by omega)).1 (hf ej)
      · have : j = min n 76 := by omega
        subst this
        rw [ln_end r hn h1 (by omega), if_neg (by omega)]
    have step : ∀ (s j r : Nat), s ≤ 4 → j < min n 76 → min n 76 - j < r → hfit s (ga V 2 j) ∧ m + (L + 1) ≤ 6 → ¬ ga V 2 j = 59 → ∃ r', min n 76 - (j + 1) < r' ∧ d_House_linesOf_18 r (on (min n 76)) (on s) (on (L + 1)) (on j) V = d_House_linesOf_18 r' (on (min n 76)) (on (s + 1)) (on (L + 1)) (on (j + 1)) V := by
      intro s j r hs hj hr hf h9
      obtain ⟨r, rfl⟩ : ∃ r', r = r' + 1 := ⟨r - 1, by omega⟩
      exact ⟨r, by omega, (ln_step r hn h1 h3 hm (by omega) hj (by omega) (by omega)).2.1 hf h9⟩
    by_cases full : 6 ≤ m + L
    · rw [hP_full k full]
      exact stop 0 a q (by omega) ha hq (fun _ hc => by omega)
    · have hl6 : m + (L + 1) ≤ 6 := by omega
      rcases lT_cases (ga V 2) (min n 76) a with ⟨c0, d⟩ | ⟨c0, c1, d⟩ | ⟨c0, c1, c2, d⟩ | ⟨c0, c1, c2, c3, d⟩ | ⟨c0, c1, c2, c3, c4, d⟩ | ⟨c0, c1, c2, c3, c4, d⟩
      · rw [hP_bad k full d]
        exact stop 0 a q (by omega) ha hq (fun hj hc => c0 ⟨hj, hc.1⟩)
      all_goals
        have f0 : hfit 0 (ga V 2 a) := c0.2
        have g0 : ga V 2 a ≤ 57 := Int32.le_trans c0.2.2 (by decide)
        obtain ⟨q1, hq1, E1⟩ := step 0 a q (by omega) c0.1 hq ⟨f0, hl6⟩ (n59 g0)
        rw [E1]
      · rw [hP_bad k full d]
        exact stop 1 (a + 1) q1 (by omega) (by omega) hq1 (fun hj hc => c1 ⟨hj, hc.1⟩)
      all_goals
        have f1 : hfit 1 (ga V 2 (a + 1)) := c1.2
        obtain ⟨q2, hq2, E2⟩ := step 1 (a + 1) q1 (by omega) c1.1 hq1 ⟨f1, hl6⟩ (n59 c1.2.2)
        rw [E2]
      · rw [hP_bad k full d]
        exact stop 2 (a + 2) q2 (by omega) (by omega) hq2 (fun hj hc => c2 ⟨hj, hc.1⟩)
      all_goals
        have f2 : hfit 2 (ga V 2 (a + 2)) := c2.2
        obtain ⟨q3, hq3, E3⟩ := step 2 (a + 2) q2 (by omega) c2.1 hq2 ⟨f2, hl6⟩ (n59 c2.2.2)
        rw [E3]
      · rw [hP_bad k full d]
        exact stop 3 (a + 3) q3 (by omega) (by omega) hq3 (fun hj hc => c3 ⟨hj, hc.1⟩)
      all_goals
        have f3 : hfit 3 (ga V 2 (a + 3)) := c3.2
        obtain ⟨q4, hq4, E4⟩ := step 3 (a + 3) q3 (by omega) c3.1 hq3 ⟨f3, hl6⟩ (by rw [c3.2]; decide)
        rw [E4]
      · rw [hP_bad k full d]
        have ws := wcn_stop (ga V 2) (min n 76) 12 (a + 4) (by omega)
        rw [c4, Nat.add_zero] at ws
        exact stop 4 (a + 4) q4 (by omega) (by omega) hq4 (fun hj hc => ws ⟨hj, hc.1⟩)
      · obtain ⟨q5, hq5, E5⟩ := ln_wants (L := L + 1) hn h1 h3 hm (show min n 76 ≤ n by omega) hl6 12 4 (a + 4) q4 (by omega) (by omega) (by omega) hq4
        have w12 := wcn_le (ga V 2) (min n 76) 12 (a + 4)
        have wend := wcn_end (ga V 2) (min n 76) 12 (a + 4) (by omega)
        have wst := wcn_stop (ga V 2) (min n 76) 12 (a + 4)
        rw [show a + 3 + 1 = a + 4 from rfl, show (3 + 1 : Nat) = 4 from rfl, E5, hP_go k full d]
        generalize wcn (ga V 2) (min n 76) 12 (a + 4) = w at *
        obtain ⟨q5, rfl⟩ : ∃ q', q5 = q' + 1 := ⟨q5 - 1, by omega⟩
        by_cases ee : min n 76 ≤ a + 4 + w
        · have hje : a + 4 + w = min n 76 := by omega
          rw [if_pos ee, hje, ln_end q5 hn h1 (by omega)]
          by_cases e76 : n ≤ 76
          · rw [if_pos (by omega), hV_y e76]; rfl
          · rw [if_neg (by omega), hV_n e76, show min n 76 = 76 by omega]; rfl
        · rw [if_neg ee]
          have hnf : ¬ ga V 2 (a + 4 + w) = 59 → ¬ (hfit (4 + w) (ga V 2 (a + 4 + w)) ∧ m + (L + 1) ≤ 6) := by
            intro h9 hc
            have := hc.1
            unfold hfit at this
            rw [if_neg (by omega), if_neg (by omega), if_neg (by omega), if_neg (by omega)] at this
            rcases this with h | h
            · exact h9 h
            · exact wst (by omega) ⟨by omega, h.2⟩
          have hS := ln_step (s := 4 + w) (L := L + 1) q5 hn h1 h3 hm (show min n 76 ≤ n by omega) (show a + 4 + w < min n 76 by omega) (by omega) (by omega)
          by_cases e9 : ga V 2 (a + 4 + w) = 59
          · have hf : hfit (4 + w) (ga V 2 (a + 4 + w)) := by
              unfold hfit
              rw [if_neg (by omega), if_neg (by omega), if_neg (by omega), if_neg (by omega)]
              exact Or.inl e9
            rw [if_pos e9, hS.2.2 ⟨hf, hl6⟩ e9, ih (L + 1) (a + 4 + w + 1) q5 (by omega) (by omega) (by omega) (by omega)]
            cases hP (ga V 2) (min n 76) m k (L + 1) (a + 4 + w + 1) with
            | inr p => rfl
            | inl l =>
              show some (hVal (L + 1) (hV n (.inl l))) = some (hVal L (hV n (.inl ((a, w) :: l))))
              by_cases e76 : n ≤ 76
              · rw [hV_y e76, hV_y e76]
                show some (on (L + 1 + l.length)) = some (on (L + (l.length + 1)))
                rw [show L + 1 + l.length = L + (l.length + 1) by omega]
              · rw [hV_n e76, hV_n e76]; rfl
          · rw [if_neg e9, hS.1 (hnf e9)]; rfl
theorem X_lines {V : ai_V} {n m : Nat} (hn : n ≤ 80) (h1 : gi V 1 1 = on n) (h3 : gi V 3 0 = on m) (hm : m ≤ 6) : d_House_linesOf V = some (hVal 0 (hV n (hP (ga V 2) (min n 76) m 77 0 0))) := by
  rw [d_House_linesOf, h1, show (76 : Int32) = on 76 from rfl, min_on (by omega) (by omega)]
  exact lines_eq hn h1 h3 hm 77 0 0 ai_N (by omega) (by omega) (by omega) (N_gt (by omega))
