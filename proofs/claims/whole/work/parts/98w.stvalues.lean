/-! ===== values: both ===== -/
def wVm : Fw := ([(89, 11), (89, 14), (89, 15), (89, 16), (89, 17), (89, 18), (89, 19)], [108])
/-- what the model answers, by the text -/
theorem M_vals {W : ai_V} {T : Nat → Int32} {n m : Nat} (hn : n ≤ 80) (h11 : gi W 89 11 = on n) (t : TX W T) (h1 : gi W 89 1 = on m) (hm : m ≤ 6) :
    ∃ V', gi V' 89 11 = 0 ∧ ((vSz T n (wcn T n 4 0) ≤ 0 ∧ d_M_values W = some (vSz T n (wcn T n 4 0), V') ∧ Fr wVm W V') ∨
      (vGood T n (wcn T n 4 0) ∧ vSz T n (wcn T n 4 0) = on (wcn T n 4 0) ∧ m < wcn T n 4 0 ∧ d_M_values W = some (-100, V') ∧ Fr wVm W V') ∨
      (vGood T n (wcn T n 4 0) ∧ vSz T n (wcn T n 4 0) = on (wcn T n 4 0) ∧ wcn T n 4 0 ≤ m ∧ d_M_values W = some (on (wcn T n 4 0), V') ∧ gi V' 89 46 = on (wcn T n 4 0) ∧ (∀ i j, i < wcn T n 4 0 → j < wcn T n 4 0 → ga V' 107 (4 * i + j) = T (i * (wcn T n 4 0 + 1) + j) - 48) ∧ Fr ((89, 46) :: wVm.1, 107 :: wVm.2) W V')) := by
  have F0 : Fr wVm W (si (si (si (si (si (sr (si W 89 14 0) 89 15 (some 96)) 89 16 (on n)) 89 17 (80 : Int32)) 89 18 (0 : Int32)) 89 19 (-1 : Int32)) 89 11 0) := Fr.si (Fr.si (Fr.si (Fr.si (Fr.si (Fr.sr (Fr.si Fr.rf rfl) rfl (Or.inl rfl)) rfl) rfl) rfl) rfl) rfl
  have hM : d_M_values W = d_M_values_26 ai_N (on 0) (si (si (si (si (si (sr (si W 89 14 0) 89 15 (some 96)) 89 16 (on n)) 89 17 (80 : Int32)) 89 18 (0 : Int32)) 89 19 (-1 : Int32)) 89 11 0) := by
    rw [d_M_values, m14 _ _ 89 11 (by decide), h11, d_M_begin, bd_some]; rfl
  have m0 : MT (si (si (si (si (si (sr (si W 89 14 0) 89 15 (some 96)) 89 16 (on n)) 89 17 (80 : Int32)) 89 18 (0 : Int32)) 89 19 (-1 : Int32)) 89 11 0) n 80 0 := by
    refine ⟨?_, ?_, ?_, ?_, ?_⟩
    · simp only [gr_si]; rw [gr_sr, if_pos ⟨rfl, rfl⟩]
    · simp only [gi_si]; simp
    · simp only [gi_si]; simp; rfl
    · simp only [gi_si]; simp; rfl
    · simp only [gi_si]; simp
  have g0 : gi (si (si (si (si (si (sr (si W 89 14 0) 89 15 (some 96)) 89 16 (on n)) 89 17 (80 : Int32)) 89 18 (0 : Int32)) 89 19 (-1 : Int32)) 89 11 0) 89 11 = 0 := by rw [gi_si, if_pos ⟨rfl, rfl⟩]
  generalize si (si (si (si (si (sr (si W 89 14 0) 89 15 (some 96)) 89 16 (on n)) 89 17 (80 : Int32)) 89 18 (0 : Int32)) 89 19 (-1 : Int32)) 89 11 0 = W0 at F0 hM m0 g0
  obtain ⟨V1, e1, m1, d1, F1⟩ := v26 (T := T) hn 4 0 ai_N W0 (by omega) (by omega) m0 (t.fr F0 rfl) (fun i hi => by omega) (N_gt (by omega))
  rw [Nat.zero_add] at e1 m1 d1
  have F01 : Fr wVm W V1 := Fr.tr F0 F1 rfl
  have g1 : gi V1 89 11 = 0 := by rw [F1.gi 89 11 rfl]; exact g0
  have w4 := wcn_le T n 4 0
  have good := vGood_of (T := T) (n := n)
  generalize wcn T n 4 0 = r at *
  rw [hM, e1]
  by_cases h2 : r < 2
  · have hv : vSz T n r = -1 - on r := by rw [vSz, if_pos h2]
    obtain ⟨V2, e2, F2⟩ := v86_f (k := r) (p := r) (by omega) (by omega) 0 1 ai_N (si V1 89 19 (on r)) (by omega) (by omega) (by rw [gi_si, if_pos ⟨rfl, rfl⟩]) (N_gt (by omega))
    refine ⟨V2, by rw [F2.gi 89 11 rfl, gi_si, if_neg (by decide)]; exact g1, Or.inl ⟨by rw [hv]; exact neg_p2 (by omega), ?_, Fr.tr (Fr.si F01 rfl) F2 rfl⟩⟩
    rw [hv, d_M_values_71, if_neg (by rw [show (2 : Int32) = on 2 from rfl, on_le (by omega) (by omega)]; omega), m1.2.2.2.1, fault_y m1.2.2.2.2, bd_some, d_M_values_84]
    exact e2
  · have hk : r = 2 ∨ r = 3 ∨ r = 4 := by omega
    have hp1 : 1 * (r + 1) - 1 = r := by omega
    obtain ⟨V2, F2, R⟩ := v86_g (T := T) hn hk (r - 1) 1 ai_N 81 V1 (by omega) (by omega) (by rw [hp1]; exact m1) (t.fr F01 rfl) (fun i' j' a b hlt => by
      have : i' = 0 := by omega
      subst this
      rw [Nat.mul_zero, Nat.zero_mul, Nat.zero_add]
      exact d1 j' (by omega)) (N_gt (by omega)) (by rcases hk with rfl | rfl | rfl <;> omega)
    rw [hp1] at R
    have F02 : Fr wVm W V2 := Fr.tr F01 F2 rfl
    have g2 : gi V2 89 11 = 0 := by rw [F2.gi 89 11 rfl]; exact g1
    have h71 : d_M_values_71 (on r) V1 = d_M_values_86 ai_N (on r) (on 1) V1 := by
      rw [d_M_values_71, if_pos (by rw [show (2 : Int32) = on 2 from rfl, on_le (by omega) (by omega)]; omega), d_M_values_84]; rfl
    have hvz : vSz T n r = vVal r (vR T n r 81 r) := by rw [vSz, if_neg h2]
    rw [h71, hvz]
    cases hv : vR T n r 81 r with
    | some p =>
      rw [hv] at R
      have := vR_rng 81 r hv
      exact ⟨V2, g2, Or.inl ⟨neg_p2 (by omega), R, F02⟩⟩
    | none =>
      rw [hv] at R
      obtain ⟨r1, r2, r3⟩ := R
      have gd := good (by omega) hv
      have g46 : gi V2 89 1 = on m := by rw [F02.gi 89 1 rfl]; exact h1
      by_cases hrm : r ≤ m
      · obtain ⟨V3, e3, q1, q2, F3⟩ := v179 (V := V2) (on r)
        refine ⟨V3, by rw [F3.gi 89 11 rfl]; exact g2, Or.inr (Or.inr ⟨gd, rfl, hrm, ?_, q1, fun i j hi hj => ?_, Fr.tr (Fr.tr Fr.rf F02 rfl) F3 rfl⟩)⟩
        · rw [r1, d_M_values_152, fine_y r2, bd_some, if_pos (by decide), g46, if_pos (by rw [on_le (by omega) (by omega)]; exact hrm)]; exact e3
        · rw [q2 _ (by omega)]; exact r3 i j hi hj (Or.inl hi)
      · refine ⟨V2, g2, Or.inr (Or.inl ⟨gd, rfl, by omega, ?_, F02⟩)⟩
        rw [r1, d_M_values_152, fine_y r2, bd_some, if_pos (by decide), g46, if_neg (by rw [on_le (by omega) (by omega)]; exact hrm)]
