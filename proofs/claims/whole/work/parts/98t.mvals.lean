/-! ===== values: the model ===== -/
def wVa : Fw := ([(89, 18), (89, 19)], [108])
theorem v152_f {V : ai_V} {p : Nat} (h : gi V 89 19 = on p) (hp : p < 2147483648) (x : Int32) : d_M_values_152 x V = some (-1 - on p, V) := by
  rw [d_M_values_152, fine_n h hp, bd_some, if_neg (fun hn => hn rfl), h]
theorem v99_f {F : Int32 → Int32 → ai_V → Option (Int32 × ai_V)} {k i p : Nat} (hk : k ≤ 4) (hi : i < 4) (hp : p < 1000) : ∀ (c j q : Nat) (V : ai_V), j + c = k → gi V 89 19 = on p → c < q → ∃ V', d_M_values_99 F q (on k) (on i) (on j) V = F (on k) (on (i + 1)) V' ∧ gi V' 89 19 = on p ∧ Fr wVa V V' := by
  intro c
  induction c with
  | zero =>
    intro j q V hj hg hq
    obtain ⟨q, rfl⟩ : ∃ q', q = q' + 1 := ⟨q - 1, by omega⟩
    refine ⟨V, ?_, hg, Fr.rf⟩
    rw [d_M_values_99, if_pos (by rw [on_le (by omega) (by omega)]; omega), on_s]
  | succ c ih =>
    intro j q V hj hg hq
    obtain ⟨q, rfl⟩ : ∃ q', q = q' + 1 := ⟨q - 1, by omega⟩
    have e4 : (4 : Int32) * on i + on j = on (4 * i + j) := by rw [show (4 : Int32) = on 4 from rfl, on_mul, on_add]
    obtain ⟨V', e', g', F'⟩ := ih (j + 1) q (sa V 108 (4 * i + j) 0) (by omega) (by rw [gi_sa]; exact hg) (by omega)
    refine ⟨V', ?_, g', Fr.tr (Fr.sa Fr.rf rfl) F' rfl⟩
    rw [d_M_values_99, if_neg (by rw [on_le (by omega) (by omega)]; omega), digit_f hg (by omega), bd_some, e4, if_pos (by rw [on_in (by omega)]; omega), on_nn (by omega), on_s]
    exact e'
theorem v86_f {k p : Nat} (hk : k ≤ 4) (hp : p < 1000) : ∀ (d i q : Nat) (V : ai_V), k ≤ i + d → i ≤ 4 → gi V 89 19 = on p → d < q → ∃ V', d_M_values_86 q (on k) (on i) V = some (-1 - on p, V') ∧ Fr wVa V V' := by
  intro d
  induction d with
  | zero =>
    intro i q V hi h4 hg hq
    obtain ⟨q, rfl⟩ : ∃ q', q = q' + 1 := ⟨q - 1, by omega⟩
    refine ⟨V, ?_, Fr.rf⟩
    rw [d_M_values_86, if_pos (by rw [on_le (by omega) (by omega)]; omega)]
    by_cases e : gi V 89 16 ≤ gi V 89 18
    · rw [if_pos e, v152_f hg (by omega)]
    · rw [if_neg e, fault_n hg (by omega), bd_some, v152_f hg (by omega)]
  | succ d ih =>
    intro i q V hi h4 hg hq
    obtain ⟨q, rfl⟩ : ∃ q', q = q' + 1 := ⟨q - 1, by omega⟩
    by_cases e : k ≤ i
    · refine ⟨V, ?_, Fr.rf⟩
      rw [d_M_values_86, if_pos (by rw [on_le (by omega) (by omega)]; omega)]
      by_cases e : gi V 89 16 ≤ gi V 89 18
      · rw [if_pos e, v152_f hg (by omega)]
      · rw [if_neg e, fault_n hg (by omega), bd_some, v152_f hg (by omega)]
    · obtain ⟨V1, e1, g1, F1⟩ := v99_f (F := d_M_values_86 q) (k := k) (i := i) hk (by omega) hp k 0 ai_N V (by omega) hg (N_gt (by omega))
      obtain ⟨V2, e2, F2⟩ := ih (i + 1) q V1 (by omega) (by omega) g1 (by omega)
      refine ⟨V2, ?_, Fr.tr F1 F2 rfl⟩
      rw [d_M_values_86, if_neg (by rw [on_le (by omega) (by omega)]; omega), need_f hg (by omega), bd_some]
      exact e1.trans e2
