/-! ===== printed by wip/gen/tmpl.py: the order in which water is taken ===== -/
def oF (g : Nat → Int32) (m y : Nat) : List Nat := (List.range m).filter fun i => decide (g i = on y)
def oP (g : Nat → Int32) (m y i : Nat) : List Nat := (List.range y).flatMap (oF g m) ++ (List.range i).filter fun i => decide (g i = on y)
theorem oP_0 (g : Nat → Int32) (m y : Nat) : oP g m y 0 = (List.range y).flatMap (oF g m) := by simp [oP]
theorem oP_m (g : Nat → Int32) (m y : Nat) : oP g m y m = (List.range (y + 1)).flatMap (oF g m) := by
  rw [oP, List.range_succ, List.flatMap_append]; simp [oF]
theorem oP_s (g : Nat → Int32) (m y i : Nat) : oP g m y (i + 1) = oP g m y i ++ (if g i = on y then [i] else []) := by
  rw [oP, rs_flt, ← List.append_assoc]; rfl
theorem oP_mono (g : Nat → Int32) (m y : Nat) : ∀ k i, (oP g m y i).length ≤ (oP g m y (i + k)).length := by
  intro k
  induction k with
  | zero => intro i; exact Nat.le_refl _
  | succ k ih =>
    intro i
    have := ih i
    rw [← Nat.add_assoc, oP_s, List.length_append]; omega
theorem oFl_mono (g : Nat → Int32) (m : Nat) : ∀ k y, ((List.range y).flatMap (oF g m)).length ≤ ((List.range (y + k)).flatMap (oF g m)).length := by
  intro k
  induction k with
  | zero => intro i; exact Nat.le_refl _
  | succ k ih =>
    intro y
    have := ih y
    rw [← Nat.add_assoc, List.range_succ, List.flatMap_append, List.length_append]; omega
theorem oP_len {g : Nat → Int32} {m y i : Nat} (h6 : m ≤ 6) (hg : ∀ i, i < m → 0 ≤ (g i).toInt ∧ (g i).toInt ≤ 5) (hy : y < 6) (hi : i < m) (e : g i = on y) : (oP g m y i).length < 6 := by
  have h1 := oP_mono g m y (m - (i + 1)) (i + 1)
  rw [show i + 1 + (m - (i + 1)) = m by omega, oP_m, oP_s, if_pos e, List.length_append, List.length_singleton] at h1
  have h2 := oFl_mono g m (6 - (y + 1)) (y + 1)
  rw [show y + 1 + (6 - (y + 1)) = 6 by omega] at h2
  have h3 : ((List.range 6).flatMap (oF g m)).length = m := ordL_len hg
  omega

theorem order_9 {V : ai_V} {m : Nat} {x2 x3 : Int32} {g : Nat → Int32} {s : Nat → Nat} (h0 : gi V 3 0 = on m) (h6 : m ≤ 6) (hs : ∀ i, i < m → s i < 6 ∧ g i = ga V 4 (s i) ∧ (¬ on i = x2 → ¬ on i = x3 → s i = i) ∧ (¬ on i = x2 → on i = x3 → on (s i) = x2) ∧ (on i = x2 → on (s i) = x3)) (hg : ∀ i, i < m → 0 ≤ (g i).toInt ∧ (g i).toInt ≤ 5) :
    ∃ V', d_House_orderInto x2 x3 V = some V' ∧ CO V' 9 (ordL g m) ∧ Fr ([], [9]) V V' := by
  have hlen := ordL_len hg
  rw [d_House_orderInto]
  have := loop_n (fun n (a : Int32) x V => d_House_orderInto_6 n x2 x3 a x V) (fun c : ai_V => some c)
    (fun y a V1 => a = on ((List.range y).flatMap (oF g m)).length ∧ CO V1 9 ((List.range y).flatMap (oF g m)) ∧ Fr ([], [9]) V V1)
    (fun V' => CO V' 9 (ordL g m) ∧ Fr ([], [9]) V V') 6 ?_ ?_ 6 0 ai_N 0 V (by omega) (N_gt (by omega)) ⟨rfl, fun i hi => absurd hi (by simp), Fr.rf⟩
  · exact this
  · rintro n a y V1 hy ⟨a1, a2, hF⟩
    show ∃ a' V', d_House_orderInto_6 (n + 1) x2 x3 a (on y) V1 = _ ∧ _
    rw [d_House_orderInto_6, if_neg (by rw [show (6 : Int32) = on 6 from rfl, on_le (by omega) (by omega)]; omega)]
    have inner := loop_n (fun k (a : Int32) x V => d_House_orderInto_16 (d_House_orderInto_6 n) k x2 x3 a (on y) x V) (fun c : Int32 × ai_V => d_House_orderInto_6 n x2 x3 c.1 (on (y + 1)) c.2)
      (fun i a V1 => a = on (oP g m y i).length ∧ CO V1 9 (oP g m y i) ∧ Fr ([], [9]) V V1)
      (fun c => c.1 = on ((List.range (y + 1)).flatMap (oF g m)).length ∧ CO c.2 9 ((List.range (y + 1)).flatMap (oF g m)) ∧ Fr ([], [9]) V c.2) m ?_ ?_ m 0 ai_N a V1 (by omega) (N_gt (by omega)) ⟨by rw [oP_0]; exact a1, by rw [oP_0]; exact a2, hF⟩
    · obtain ⟨c, e, a1, a2, a3⟩ := inner
      exact ⟨c.1, c.2, e, a1, a2, a3⟩
    · rintro k a i V2 hi ⟨a1, a2, hF⟩
      show ∃ a' V', d_House_orderInto_16 (d_House_orderInto_6 n) (k + 1) x2 x3 a (on y) (on i) V2 = _ ∧ _
      obtain ⟨s1, s2, s3, s4, s5⟩ := hs i hi
      have key : ∃ a' V', d_House_orderInto_47 (d_House_orderInto_6 n) (d_House_orderInto_16 (d_House_orderInto_6 n) k) x2 x3 a (on y) (on i) (on (s i)) V2 = d_House_orderInto_16 (d_House_orderInto_6 n) k x2 x3 a' (on y) (on (i + 1)) V' ∧ a' = on (oP g m y (i + 1)).length ∧ CO V' 9 (oP g m y (i + 1)) ∧ Fr ([], [9]) V V' := by
        rw [d_House_orderInto_47, if_pos (by rw [on_in (by omega)]; omega), on_nn (by omega), hF.ga 4 rfl, ← s2, a1]
        by_cases e : g i = on y
        · have hl := oP_len h6 hg hy hi e
          rw [if_neg (fun hn => hn e), show Int32.ofNat 6 = on 6 from rfl, if_neg (by rw [on_le (by omega) (by omega)]; omega), if_pos (by rw [on_in (by omega)]; omega), d_House_orderInto_77, on_s, on_s, on_nn (by omega)]
          refine ⟨_, _, rfl, ?_, ?_, Fr.sa hF rfl⟩
          · rw [oP_s, if_pos e]; simp
          · rw [oP_s, if_pos e]
            intro j hj
            rw [List.length_append, List.length_singleton] at hj
            rw [ga_sa]
            by_cases e2 : j = (oP g m y i).length
            · rw [if_pos ⟨rfl, e2⟩, e2]; simp [List.getD]
            · rw [if_neg (fun hc => e2 hc.2), a2 j (by omega)]
              congr 1
              simp [List.getD, List.getElem?_append_left (show j < (oP g m y i).length by omega)]
        · rw [if_pos e, d_House_orderInto_77, on_s]
          refine ⟨_, _, rfl, ?_, ?_, hF⟩
          · rw [oP_s, if_neg e, List.append_nil]
          · rw [oP_s, if_neg e, List.append_nil]; exact a2
      rw [d_House_orderInto_16, hF.gi 3 0 rfl, h0, if_neg (by rw [on_le (by omega) (by omega)]; omega)]
      by_cases e1 : on i = x2
      · rw [if_neg (fun hn => hn e1)]
        rw [s5 e1] at key; exact key
      · rw [if_pos e1]
        by_cases e2 : on i = x3
        · rw [if_neg (fun hn => hn e2)]
          rw [s4 e1 e2] at key; exact key
        · rw [if_pos e2]
          have := s3 e1 e2
          rw [this] at key; exact key
    · rintro k a V2 ⟨a1, a2, hF⟩
      show ∃ c : Int32 × ai_V, d_House_orderInto_16 (d_House_orderInto_6 n) (k + 1) x2 x3 a (on y) (on m) V2 = _ ∧ _
      rw [d_House_orderInto_16, hF.gi 3 0 rfl, h0, if_pos (Int32.le_refl _), on_s]
      rw [oP_m] at a1 a2
      exact ⟨(a, V2), rfl, a1, a2, hF⟩
  · rintro n a V1 ⟨a1, a2, hF⟩
    show ∃ c : ai_V, d_House_orderInto_6 (n + 1) x2 x3 a (on 6) V1 = _ ∧ _
    rw [d_House_orderInto_6, if_pos (by decide)]
    exact ⟨V1, rfl, a2, hF⟩

theorem order_82 {V : ai_V} {m : Nat} {x2 x3 : Int32} {g : Nat → Int32} {s : Nat → Nat} (h0 : gi V 3 0 = on m) (h6 : m ≤ 6) (hs : ∀ i, i < m → s i < 6 ∧ g i = ga V 4 (s i) ∧ (¬ on i = x2 → ¬ on i = x3 → s i = i) ∧ (¬ on i = x2 → on i = x3 → on (s i) = x2) ∧ (on i = x2 → on (s i) = x3)) (hg : ∀ i, i < m → 0 ≤ (g i).toInt ∧ (g i).toInt ≤ 5) :
    ∃ V', d_House_orderInto_3_82 x2 x3 V = some V' ∧ CO V' 82 (ordL g m) ∧ Fr ([], [82]) V V' := by
  have hlen := ordL_len hg
  rw [d_House_orderInto_3_82]
  have := loop_n (fun n (a : Int32) x V => d_House_orderInto_3_82_6 n x2 x3 a x V) (fun c : ai_V => some c)
    (fun y a V1 => a = on ((List.range y).flatMap (oF g m)).length ∧ CO V1 82 ((List.range y).flatMap (oF g m)) ∧ Fr ([], [82]) V V1)
    (fun V' => CO V' 82 (ordL g m) ∧ Fr ([], [82]) V V') 6 ?_ ?_ 6 0 ai_N 0 V (by omega) (N_gt (by omega)) ⟨rfl, fun i hi => absurd hi (by simp), Fr.rf⟩
  · exact this
  · rintro n a y V1 hy ⟨a1, a2, hF⟩
    show ∃ a' V', d_House_orderInto_3_82_6 (n + 1) x2 x3 a (on y) V1 = _ ∧ _
    rw [d_House_orderInto_3_82_6, if_neg (by rw [show (6 : Int32) = on 6 from rfl, on_le (by omega) (by omega)]; omega)]
    have inner := loop_n (fun k (a : Int32) x V => d_House_orderInto_3_82_16 (d_House_orderInto_3_82_6 n) k x2 x3 a (on y) x V) (fun c : Int32 × ai_V => d_House_orderInto_3_82_6 n x2 x3 c.1 (on (y + 1)) c.2)
      (fun i a V1 => a = on (oP g m y i).length ∧ CO V1 82 (oP g m y i) ∧ Fr ([], [82]) V V1)
      (fun c => c.1 = on ((List.range (y + 1)).flatMap (oF g m)).length ∧ CO c.2 82 ((List.range (y + 1)).flatMap (oF g m)) ∧ Fr ([], [82]) V c.2) m ?_ ?_ m 0 ai_N a V1 (by omega) (N_gt (by omega)) ⟨by rw [oP_0]; exact a1, by rw [oP_0]; exact a2, hF⟩
    · obtain ⟨c, e, a1, a2, a3⟩ := inner
      exact ⟨c.1, c.2, e, a1, a2, a3⟩
    · rintro k a i V2 hi ⟨a1, a2, hF⟩
      show ∃ a' V', d_House_orderInto_3_82_16 (d_House_orderInto_3_82_6 n) (k + 1) x2 x3 a (on y) (on i) V2 = _ ∧ _
      obtain ⟨s1, s2, s3, s4, s5⟩ := hs i hi
      have key : ∃ a' V', d_House_orderInto_3_82_47 (d_House_orderInto_3_82_6 n) (d_House_orderInto_3_82_16 (d_House_orderInto_3_82_6 n) k) x2 x3 a (on y) (on i) (on (s i)) V2 = d_House_orderInto_3_82_16 (d_House_orderInto_3_82_6 n) k x2 x3 a' (on y) (on (i + 1)) V' ∧ a' = on (oP g m y (i + 1)).length ∧ CO V' 82 (oP g m y (i + 1)) ∧ Fr ([], [82]) V V' := by
        rw [d_House_orderInto_3_82_47, if_pos (by rw [on_in (by omega)]; omega), on_nn (by omega), hF.ga 4 rfl, ← s2, a1]
        by_cases e : g i = on y
        · have hl := oP_len h6 hg hy hi e
          rw [if_neg (fun hn => hn e), show Int32.ofNat 6 = on 6 from rfl, if_neg (by rw [on_le (by omega) (by omega)]; omega), if_pos (by rw [on_in (by omega)]; omega), d_House_orderInto_3_82_77, on_s, on_s, on_nn (by omega)]
          refine ⟨_, _, rfl, ?_, ?_, Fr.sa hF rfl⟩
          · rw [oP_s, if_pos e]; simp
          · rw [oP_s, if_pos e]
            intro j hj
            rw [List.length_append, List.length_singleton] at hj
            rw [ga_sa]
            by_cases e2 : j = (oP g m y i).length
            · rw [if_pos ⟨rfl, e2⟩, e2]; simp [List.getD]
            · rw [if_neg (fun hc => e2 hc.2), a2 j (by omega)]
              congr 1
              simp [List.getD, List.getElem?_append_left (show j < (oP g m y i).length by omega)]
        · rw [if_pos e, d_House_orderInto_3_82_77, on_s]
          refine ⟨_, _, rfl, ?_, ?_, hF⟩
          · rw [oP_s, if_neg e, List.append_nil]
          · rw [oP_s, if_neg e, List.append_nil]; exact a2
      rw [d_House_orderInto_3_82_16, hF.gi 3 0 rfl, h0, if_neg (by rw [on_le (by omega) (by omega)]; omega)]
      by_cases e1 : on i = x2
      · rw [if_neg (fun hn => hn e1)]
        rw [s5 e1] at key; exact key
      · rw [if_pos e1]
        by_cases e2 : on i = x3
        · rw [if_neg (fun hn => hn e2)]
          rw [s4 e1 e2] at key; exact key
        · rw [if_pos e2]
          have := s3 e1 e2
          rw [this] at key; exact key
    · rintro k a V2 ⟨a1, a2, hF⟩
      show ∃ c : Int32 × ai_V, d_House_orderInto_3_82_16 (d_House_orderInto_3_82_6 n) (k + 1) x2 x3 a (on y) (on m) V2 = _ ∧ _
      rw [d_House_orderInto_3_82_16, hF.gi 3 0 rfl, h0, if_pos (Int32.le_refl _), on_s]
      rw [oP_m] at a1 a2
      exact ⟨(a, V2), rfl, a1, a2, hF⟩
  · rintro n a V1 ⟨a1, a2, hF⟩
    show ∃ c : ai_V, d_House_orderInto_3_82_6 (n + 1) x2 x3 a (on 6) V1 = _ ∧ _
    rw [d_House_orderInto_3_82_6, if_pos (by decide)]
    exact ⟨V1, rfl, a2, hF⟩

