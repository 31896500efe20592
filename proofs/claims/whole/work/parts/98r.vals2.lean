/-! ===== values: the class's size ===== -/
def vSz (T : Nat → Int32) (n r : Nat) : Int32 := if r < 2 then -1 - on r else vVal r (vR T n r 81 r)
theorem size_0 {V : ai_V} {n : Nat} (hn : n ≤ 80) (h1 : gi V 1 1 = on n) : ∀ (c j q : Nat), j + c = 4 → j ≤ n → n - j < q →
    d_Worths_sizeOf_10 q (on 0) (on 0) (on j) (on j) V = some (vSz (ga V 2) n (j + wcn (ga V 2) n c j)) := by
  -- where the first row ends
  have stop : ∀ (j q : Nat), j ≤ 4 → j ≤ n → n - j < q → ¬ (j < n ∧ btw (ga V 2 j) 48 57 ∧ j < 4) → d_Worths_sizeOf_10 q (on 0) (on 0) (on j) (on j) V = some (vSz (ga V 2) n j) := by
    intro j q hj hjn hq hs
    obtain ⟨q, rfl⟩ : ∃ q', q = q' + 1 := ⟨q - 1, by omega⟩
    have bad : 2 ≤ j → ¬ (j < n ∧ ga V 2 j = 47) → vSz (ga V 2) n j = -1 - on j := by
      intro h2 hc
      have hlen : ¬ j * (j + 1) - 1 ≤ j := by
        rcases (show j = 2 ∨ j = 3 ∨ j = 4 by omega) with rfl | rfl | rfl <;> omega
      have hm : j % (j + 1) = j := Nat.mod_eq_of_lt (by omega)
      rw [vSz, if_neg (by omega), vR, if_neg hlen, if_neg (fun hc2 => ?_)]
      · rfl
      · rcases hc2.2 with u | u
        · exact hc ⟨hc2.1, u.2⟩
        · exact u.1 hm
    have small : j < 2 → vSz (ga V 2) n j = -1 - on j := fun h2 => by rw [vSz, if_pos h2]
    by_cases e : n ≤ j
    · have hje : j = n := by omega
      have hv : vSz (ga V 2) n j = -1 - on j := by
        by_cases h2 : j < 2
        · exact small h2
        · exact bad (by omega) (fun hc => by omega)
      rw [hv, d_Worths_sizeOf_10, h1, if_pos (by rw [on_le (by omega) (by omega)]; exact e), if_pos (show on 0 ≤ (0 : Int32) from Int32.le_refl _), d_Worths_sizeOf_136, h1, hje]
    · have st : d_Worths_sizeOf_10 (q + 1) (on 0) (on 0) (on j) (on j) V = d_Worths_sizeOf_36 (d_Worths_sizeOf_10 q) (on 0) (on 0) (on j) (on j) (ga V 2 j) (on 4) V := by
        rw [d_Worths_sizeOf_10, h1, if_neg (by rw [on_le (by omega) (by omega)]; exact e), at_y hn h1 (by omega), bd_some, if_neg (fun hn => hn rfl)]; rfl
      rw [st, (sz_36 (by omega) (by omega)).2 (fun hc => hs ⟨by omega, hc.1, hc.2⟩), d_Worths_sizeOf_59]
      by_cases c7 : ga V 2 j = 47
      · rw [if_neg (fun hn => hn c7), if_neg (fun hn => hn rfl)]
        by_cases h2 : j < 2
        · rw [if_pos (by rw [show (2 : Int32) = on 2 from rfl, on_lt (by omega) (by omega)]; exact h2), small h2]; rfl
        · rw [if_neg (by rw [show (2 : Int32) = on 2 from rfl, on_lt (by omega) (by omega)]; exact h2), d_Worths_sizeOf_92, d_Worths_sizeOf_109, on_s, on_s]
          have := size_rest hn h1 (k := j) (by omega) 80 1 0 (j + 1) q (by omega) (by omega) (by omega) (by omega) (by omega) (by omega)
          have hlen : ¬ j * (j + 1) - 1 ≤ j := by
            rcases (show j = 2 ∨ j = 3 ∨ j = 4 by omega) with rfl | rfl | rfl <;> omega
          have hm : j % (j + 1) = j := Nat.mod_eq_of_lt (by omega)
          rw [vSz, if_neg h2, vR, if_neg hlen, if_pos ⟨by omega, Or.inl ⟨hm, c7⟩⟩]
          exact this
      · have hv : vSz (ga V 2) n j = -1 - on j := by
          by_cases h2 : j < 2
          · exact small h2
          · exact bad (by omega) (fun hc => c7 hc.2)
        rw [if_pos c7, hv]; rfl
  intro c
  induction c with
  | zero =>
    intro j q hj hjn hq
    exact stop j q (by omega) hjn hq (by omega)
  | succ c ih =>
    intro j q hj hjn hq
    rw [wcn]
    by_cases h : j < n ∧ btw (ga V 2 j) 48 57
    · rw [if_pos h]
      obtain ⟨q, rfl⟩ : ∃ q', q = q' + 1 := ⟨q - 1, by omega⟩
      have st : d_Worths_sizeOf_10 (q + 1) (on 0) (on 0) (on j) (on j) V = d_Worths_sizeOf_36 (d_Worths_sizeOf_10 q) (on 0) (on 0) (on j) (on j) (ga V 2 j) (on 4) V := by
        rw [d_Worths_sizeOf_10, h1, if_neg (by rw [on_le (by omega) (by omega)]; omega), at_y hn h1 (by omega), bd_some, if_neg (fun hn => hn rfl)]; rfl
      rw [st, (sz_36 (by omega) (by omega)).1 ⟨h.2, by omega⟩, ih (j + 1) q (by omega) (by omega) (by omega), show j + 1 + wcn (ga V 2) n c (j + 1) = j + (wcn (ga V 2) n c (j + 1) + 1) by omega]
    · rw [if_neg h]
      exact stop j q (by omega) hjn hq (fun hc => h ⟨hc.1, hc.2.1⟩)
theorem X_size {V : ai_V} {n : Nat} (hn : n ≤ 80) (h1 : gi V 1 1 = on n) : d_Worths_sizeOf V = some (vSz (ga V 2) n (wcn (ga V 2) n 4 0)) := by
  have := size_0 hn h1 4 0 ai_N (by omega) (by omega) (N_gt (by omega))
  rw [Nat.zero_add] at this
  exact this
