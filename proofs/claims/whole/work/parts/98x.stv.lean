/-! ===== values: the step ===== -/
theorem st_values {N : Nat} {V : ai_V} (hI : Inv N V) (hN : N < 512) : Step N V d_X_values d_M_values := by
  obtain ⟨h, f, z, rm, h1, h2, h3, h4, h5, h6, h7, h8, h9, h10⟩ := hI
  obtain ⟨n, n80, t1, t2, tx⟩ := h1.t
  have m6 := h2.1.1
  have xs := X_size n80 t1
  have c3 : gi V 3 0 = on (hm h) := h2.2.1.1
  -- nothing is taken
  have no : ∀ (v : Int32), (d_X_values V = some (v, si V 1 1 0)) → (∃ V', gi V' 89 11 = 0 ∧ d_M_values (si V 1 1 0) = some (v, V') ∧ Fr wVm (si V 1 1 0) V') → Step N V d_X_values d_M_values := by
    intro v hx ⟨V', g, hm', F'⟩
    have F1 : Fr ([(1, 1)], []) V (si V 1 1 0) := Fr.si Fr.rf rfl
    have F : Fr ((1, 1) :: wVm.1, wVm.2) V V' := Fr.tr (Fr.tr Fr.rf F1 rfl) F' rfl
    exact ⟨v, _, V', hx, hm', h, f, z, rm, h1.clr (by rw [F'.gi 1 1 rfl, gi_si, if_pos ⟨rfl, rfl⟩]) g (F.ga 2 rfl) (F.ga 96 rfl), h2.sm (Sm.of F rfl), h3.sm (Sm.of F rfl), h4.sm (Sm.of F rfl) (by omega), h5.sm (Sm.of F rfl), h6.sm (Sm.of F rfl) (by omega), h7.sm (Sm.of F rfl) (by omega), h8.sm (Sm.of F rfl), h9.sm (Sm.of F rfl), h10.fr2 F1 F' rfl rfl⟩
  have F1 : Fr ([(1, 1)], []) V (si V 1 1 0) := Fr.si Fr.rf rfl
  obtain ⟨V', g', R⟩ := M_vals (W := si V 1 1 0) (T := ga V 2) (m := hm h) n80 (by rw [F1.gi 89 11 rfl]; exact t2) (tx.fr F1 rfl) (by rw [F1.gi 89 1 rfl]; exact h2.2.2.1.1) m6
  rcases R with ⟨r1, r2, r3⟩ | ⟨r1, r2, r3, r4, r5⟩ | ⟨r1, r2, r3, -⟩
  · refine no _ ?_ ⟨V', g', r2, r3⟩
    rw [d_X_values, xs, bd_some, c3, if_pos (Int32.le_trans r1 (on_ge0 (by omega))), if_pos r1]; rfl
  · refine no _ ?_ ⟨V', g', r4, r5⟩
    have w4 := wcn_le (ga V 2) n 4 0
    rw [d_X_values, xs, bd_some, c3, r2, if_neg (by rw [on_le (by omega) (by omega)]; omega)]; rfl
  · have w4 := wcn_le (ga V 2) n 4 0
    obtain ⟨V1, e1, q1, q2, Fa⟩ := X_dig n80 t1 r1
    have Fb : Fr ([(72, 0), (1, 1)], [75]) V (si V1 1 1 0) := Fr.si (Fr.tr Fr.rf Fa rfl) rfl
    obtain ⟨V2, g2, R2⟩ := M_vals (W := si V1 1 1 0) (T := ga V 2) (m := hm h) n80 (by rw [Fb.gi 89 11 rfl]; exact t2) (tx.fr Fb rfl) (by rw [Fb.gi 89 1 rfl]; exact h2.2.2.1.1) m6
    have hk := r1.1
    rcases R2 with ⟨u1, -⟩ | ⟨-, -, u3, -⟩ | ⟨u1, u2, u3, u4, u5, u6, u7⟩
    · rw [r2] at u1
      exact absurd u1 (on_pos (by omega) (by omega))
    · omega
    · have F : Fr ((72, 0) :: (1, 1) :: (89, 46) :: wVm.1, 75 :: 107 :: wVm.2) V V2 := Fr.tr (Fr.tr Fr.rf Fb rfl) u7 rfl
      refine ⟨on (wcn (ga V 2) n 4 0), si V1 1 1 0, V2, ?_, u4, h, f, z, rm, h1.clr (by rw [u7.gi 1 1 rfl, gi_si, if_pos ⟨rfl, rfl⟩]) g2 (F.ga 2 rfl) (F.ga 96 rfl), h2.sm (Sm.of F rfl), h3.sm (Sm.of F rfl), h4.sm (Sm.of F rfl) (by omega), h5.sm (Sm.of F rfl), h6.sm (Sm.of F rfl) (by omega), h7.sm (Sm.of F rfl) (by omega), ?_, h9.sm (Sm.of F rfl), h10.fr2 Fb u7 rfl rfl⟩
      · rw [d_X_values, xs, bd_some, c3, r2, if_pos (by rw [on_le (by omega) (by omega)]; exact r3), if_neg (on_pos (by omega) (by omega)), e1, bd_some]; rfl
      · generalize wcn (ga V 2) n 4 0 = k at *
        refine ⟨k, by omega, w4, by rw [u7.gi 72 0 rfl, gi_si, if_neg (by decide)]; exact q1, u5, fun i j hi hj => ?_⟩
        rw [u7.ga 75 rfl, ga_si, q2 i j hi hj, u6 i j hi hj]
        refine ⟨rfl, ?_⟩
        have hp : i * (k + 1) + j < n ∧ (i * (k + 1) + j) % (k + 1) ≠ k := by
          have hn := r1.2.1
          rcases hk with rfl | rfl | rfl <;> omega
        rcases r1.2.2 _ hp.1 with ⟨y1, -⟩ | ⟨-, y2⟩
        · exact absurd y1 hp.2
        · exact sub48 y2 (x := 0) (y := 9) rfl rfl (by omega) (by omega)
