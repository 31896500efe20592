/-! ===== day, look ===== -/
theorem IT.t {V : ai_V} (h : IT V) : ∃ n, n ≤ 80 ∧ gi V 1 1 = on n ∧ gi V 89 11 = on n ∧ TX V (ga V 2) := by
  obtain ⟨n, a, b, c, d⟩ := h
  exact ⟨n, a, b, c, d⟩
theorem IT.clr {V V' : ai_V} (h : IT V) (e1 : gi V' 1 1 = 0) (e2 : gi V' 89 11 = 0) (e3 : ga V' 2 = ga V 2) (e4 : ga V' 96 = ga V 96) : IT V' := by
  obtain ⟨n, a, b, c, d⟩ := h
  exact ⟨0, by omega, e1, e2, by rw [e3, e4]; exact d⟩
theorem run0_16 {N : Nat} {V : ai_V} {h : Hs} {f : Rf} {z : Ss} {rm : Int32} {n nw p x : Nat} {l : List (List Nat)} (hn : n ≤ 80) (hp : dayP (ga V 2) n 49 0 = .inl l) (K : KC V h f) (h1 : gi V 1 1 = on n) (hS : IS N V h z rm) (hnw : z.1 = on nw) (hb : nw + l.length < 2000000) (hl : l.length < 500)
    (p1 : p ≤ 12) (p2 : x < 12) (p3 : gi V 24 1 = on p) (p4 : gi V 24 2 = on x) (p6 : ∀ j, j < 12 → gi V (26 + 3 * j) 2 = 999) :
    ∃ V', d_X_treadDay V = some (on (dR h f rm l (0, 0, 0, z)).1, V') ∧ cS (dR h f rm l (0, 0, 0, z)).2.2.2 V' 16 ∧ cRow V' (dRow (dR h f rm l (0, 0, 0, z))) ∧
      (((dR h f rm l (0, 0, 0, z)) = (0, 0, 0, z) ∧ Fr wD16 V V') ∨ (1 ≤ (dR h f rm l (0, 0, 0, z)).1 ∧ ∃ V1, gi V1 24 1 = on (min (p + 1) 12) ∧ gi V1 24 2 = on ((x + 1) % 12) ∧ cS z V1 (26 + 3 * x) ∧ (∀ j, j < 12 → j ≠ x → ∀ y, cS y V (26 + 3 * j) → cS y V1 (26 + 3 * j)) ∧ Fr wSv V V1 ∧ Fr wD16 V1 V')) := by
  obtain ⟨s1, s2, s3, s4, s5, s6, s7, s8⟩ := hS
  rw [d_X_treadDay]
  by_cases e : n ≤ 0
  · rw [dayP_end _ _ e] at hp
    have hl := Sum.inl.inj hp
    subst hl
    obtain ⟨V1, e1, r1, F1⟩ := te_16 s2 0 0 0
    refine ⟨V1, ?_, s2.fr F1 rfl rfl rfl rfl, r1, Or.inl ⟨rfl, Fr.tr Fr.rf F1 rfl⟩⟩
    rw [show ai_N = 19999 + 1 from rfl, d_X_treadDay_10, h1, if_pos (by rw [show (0 : Int32) = on 0 from rfl, on_le (by omega) (by omega)]; exact e)]; exact e1
  · cases hd : dT (ga V 2) n 0 with
    | inr p => rw [dayP_bad 48 (by omega) hd] at hp; cases hp
    | inl u =>
      obtain ⟨t, j⟩ := u
      rw [dayP_go 48 (by omega) hd] at hp
      have hnx := dT_next (by omega) hd
      cases hr2 : dayP (ga V 2) n 48 j with
      | inr p => rw [hr2] at hp; cases hp
      | inl l2 =>
        rw [hr2] at hp
        have hll := Sum.inl.inj hp
        subst hll
        rw [List.length_cons] at hb hl
        have tc := tcan K.1 t hnx.2.2
        have st := td_16 hn h1 (show 0 < n by omega) hd 19999 0 0 0
        rw [show d_X_treadDay_10 ai_N 0 0 0 0 V = d_X_treadDay_10 (19999 + 1) (on 0) 0 0 (on 0) V from rfl, st]
        rcases canTread_eq K.1 K.2.1 (tX t) (tY t) with ⟨ex, hcn⟩ | ⟨ex, hcn⟩
        · obtain ⟨V1, e1, g1, g2, c1, c2, F1⟩ := save_eq p1 p2 p3 p4 s2 p6 s1.2.1.2
          have K1 : KC V1 h f := K.fr F1 rfl
          obtain ⟨V2, e2, z2, -, q3, -, q5⟩ := pass_16 (rm := rm) K1.1 K1.2.1 K1.2.2.1 K1.2.2.2 (tc.2 hcn) (s2.fr F1 rfl rfl rfl rfl) (by rw [F1.gi 16 2 rfl]; exact s4) hnw (by omega)
          have F2 : Fr w_Wheel_pass V1 V2 := fr_Wheel_pass _ _ _ _ e2
          have T2 : ga V2 2 = ga V 2 := by rw [F2.ga 2 rfl, F1.ga 2 rfl]
          rw [← T2] at hr2
          obtain ⟨V3, e3, z3, r3, F3⟩ := run_16 (h := h) (f := f) (rm := rm) hn 48 j 19999 1 (0 + on (popc (qT h f (lo h) rm (tB t) z).2)) (0 + qovr h f rm (tB t) z) _ (nw + 1) V2 l2 hr2 (K1.fr F2 rfl) (by rw [F2.gi 1 1 rfl, F1.gi 1 1 rfl]; exact h1) z2 (by rw [F2.gi 16 2 rfl, F1.gi 16 2 rfl]; exact s4) (by show z.1 + 1 = _; rw [hnw, on_s]) (by omega) (by omega) (by omega) (by omega) (by omega)
          have hR : dR h f rm (t :: l2) (0, 0, 0, z) = dR h f rm l2 (0 + 1, 0 + on (popc (qT h f (lo h) rm (tB t) z).2), 0 + qovr h f rm (tB t) z, qz h f (lo h) rm (tB t) z) := by rw [dR, if_pos (tc.1.mp hcn)]
          have hge : ∀ (l : List (List Nat)) (a : Ds), a.1 ≤ (dR h f rm l a).1 := by
            intro l
            induction l with
            | nil => intro a; exact Nat.le_refl _
            | cons t l ih =>
              intro a
              rw [dR]
              by_cases e : tB t < 2 ^ hm h
              · rw [if_pos e]
                have := ih (a.1 + 1, a.2.1 + on (popc (qT h f (lo h) rm (tB t) a.2.2.2).2), a.2.2.1 + qovr h f rm (tB t) a.2.2.2, qz h f (lo h) rm (tB t) a.2.2.2)
                simp only at this
                omega
              · rw [if_neg e]; exact Nat.le_refl _
          rw [hR, ex, bd_some, if_pos (show ¬ (1 : Int32) = 0 by decide), if_neg (fun hn => hn rfl), e1, bd_some, d_X_treadDay_174, e2, bd_some, q5, q3]
          exact ⟨V3, e3, z3, r3, Or.inr ⟨hge l2 (0 + 1, _, _, _), V1, g1, g2, c1, c2, F1, Fr.tr (Fr.tr Fr.rf F2 rfl) F3 rfl⟩⟩
        · have hR : dR h f rm (t :: l2) (0, 0, 0, z) = (0, 0, 0, z) := by rw [dR, if_neg (fun hb => hcn (tc.1.mpr hb))]
          obtain ⟨V1, e1, r1, F1⟩ := te_16 s2 0 0 0
          rw [hR, ex, bd_some, if_neg (fun hn => hn rfl)]
          exact ⟨V1, e1, s2.fr F1 rfl rfl rfl rfl, r1, Or.inl ⟨rfl, Fr.tr Fr.rf F1 rfl⟩⟩
