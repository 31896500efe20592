/-! ===== look ===== -/
theorem st_look {N : Nat} {V : ai_V} (hI : Inv N V) (hN : N < 512) : Step N V d_X_look d_M_look := by
  obtain ⟨h, f, z, rm, h1, h2, h3, h4, h5, h6, h7, h8, h9, h10⟩ := hI
  obtain ⟨kc, km, nw, hn, hb⟩ : KC V h f ∧ KM V h f ∧ ∃ nw, z.1 = on nw ∧ nw ≤ 48 * N := by
    obtain ⟨a1, a2, a3, a4, -⟩ := h2
    refine ⟨⟨a1, a2, h3.1, a4⟩, ⟨a1, a3, h3.2, storey_eq a1 h10.1 h10.2.1⟩, z.1.toNatClampNeg, (on_of (by rw [ti_le]; exact h4.1.1.1)).symm, ?_⟩
    have := h4.1.1.2
    have := ti_nn z.1
    omega
  obtain ⟨n, n80, t1, t2, tx⟩ := h1.t
  obtain ⟨V0, e0, a0, r0, F0⟩ := asked_eq h4
  have T0 : ga V0 2 = ga V 2 := F0.ga 2 rfl
  have t10 : gi V0 1 1 = on n := by rw [F0.gi 1 1 rfl]; exact t1
  have xf := X_fault n80 t10
  rw [T0] at xf
  cases hR : dayV n (dayP (ga V 2) (min n 48) 49 0) with
  | inr p =>
    rw [hR] at xf
    have hp := dayV_inr hR
    have F1 : Fr ([(1, 1), (19, 0), (19, 1), (19, 2)], [20, 21]) V (si V0 1 1 0) := Fr.si (Fr.tr Fr.rf F0 rfl) rfl
    have F1' : Fr ([(1, 1), (19, 0), (19, 1), (19, 2), (89, 14)], [20, 21]) V (si (si V0 1 1 0) 89 14 0) := Fr.si (Fr.tr Fr.rf F1 rfl) rfl
    obtain ⟨v, V2, e2, ok, g11, F2⟩ := M_readDay (V := si (si V0 1 1 0) 89 14 0) n80 (by rw [F1'.gi 89 11 rfl]; exact t2) (tx.fr F1' rfl)
    rw [hR] at ok
    have hv : v = -1 - on p := ok
    subst hv
    have F12 : Fr wRD (si V0 1 1 0) V2 := Fr.tr (Fr.si Fr.rf rfl) F2 rfl
    have F : Fr ((1, 1) :: (19, 0) :: (19, 1) :: (19, 2) :: wRD.1, 20 :: 21 :: wRD.2) V V2 := Fr.tr (Fr.tr Fr.rf F1 rfl) F12 rfl
    refine ⟨-1 - on p, si V0 1 1 0, V2, ?_, ?_, h, f, z, rm, h1.clr ?_ g11 (F.ga 2 rfl) (F.ga 96 rfl), h2.sm (Sm.of F rfl), h3.sm (Sm.of F rfl), h4.sm (Sm.of F rfl) (by omega), h5.sm (Sm.of F rfl), h6.sm (Sm.of F rfl) (by omega), h7.sm (Sm.of F rfl) (by omega), h8.sm (Sm.of F rfl), h9.sm (Sm.of F rfl), h10.fr2 F1 F12 rfl rfl⟩
    · rw [d_X_look, e0, bd_some, d_X_readDay_0_19, xf, bd_some, if_pos (show ¬ dayF (.inr p) = -1 from on_ne_m1 (by omega))]; rfl
    · rw [d_M_look, e2, bd_some, if_neg (neg_p hp)]
    · rw [F12.gi 1 1 rfl, gi_si, if_pos ⟨rfl, rfl⟩]
  | inl l =>
    rw [hR] at xf
    obtain ⟨n48, hP, l48, hW⟩ := dayV_in hR
    rw [← T0] at hP
    obtain ⟨V1, e1, z1, r1, W1⟩ := run_19 (h := h) (f := f) (rm := rm) n80 49 0 ai_N 0 0 0 z nw V0 l hP (kc.fr F0 rfl) t10 a0 r0 hn (by omega) (N_gt (by omega)) (by omega) (by omega)
    have Fx : Fr ((1, 1) :: (19, 2) :: wD19.1, wD19.2) V (si V1 1 1 0) := Fr.si (Fr.tr (Fr.tr Fr.rf F0 rfl) W1 rfl) rfl
    have F14 : Fr ((1, 1) :: (19, 2) :: (89, 14) :: wD19.1, wD19.2) V (si (si V1 1 1 0) 89 14 0) := Fr.si (Fr.tr Fr.rf Fx rfl) rfl
    obtain ⟨v, V2, e2, ok, g11, F2⟩ := M_readDay (V := si (si V1 1 1 0) 89 14 0) n80 (by rw [F14.gi 89 11 rfl]; exact t2) (tx.fr F14 rfl)
    rw [hR] at ok
    obtain ⟨rfl, o2, o3, -⟩ := ok
    have F02 : Fr ((1, 1) :: (19, 2) :: wD19.1 ++ wRD.1, wD19.2 ++ wRD.2) V V2 := Fr.tr (Fr.tr Fr.rf F14 rfl) F2 rfl
    obtain ⟨V3, e3, z3, F3⟩ := laid_eq (V := V2) (h4.2.2.1.fr F02 rfl)
    have F03 : Fr ((1, 1) :: (19, 2) :: wD19.1 ++ wRD.1, wD19.2 ++ 103 :: wRD.2) V V3 := Fr.tr (Fr.tr Fr.rf F02 rfl) F3 rfl
    obtain ⟨V4, e4, z4, r4, F4⟩ := go_103 (h := h) (f := f) (rm := rm) l ai_N 0 0 0 z nw V3 hW (by rw [F3.gi 89 38 rfl]; exact o2) (fun j hj => by rw [F3.ga 102 rfl]; exact o3 j hj) (by omega) (km.fr F03 rfl) z3 (by rw [F03.gi 89 8 rfl]; exact h4.2.2.2.2.1) hn (by omega) (N_gt (by omega))
    have FX4 : Fr (wRD.1 ++ wG103.1, wRD.2 ++ wG103.2) (si V1 1 1 0) V4 := Fr.tr (Fr.tr (Fr.tr (Fr.si Fr.rf rfl) F2 rfl) F3 rfl) F4 rfl
    have F : Fr ((1, 1) :: (19, 2) :: wD19.1 ++ (wRD.1 ++ wG103.1), wD19.2 ++ (wRD.2 ++ wG103.2)) V V4 := Fr.tr (Fr.tr Fr.rf Fx rfl) FX4 rfl
    have cR : cRow (si V1 1 1 0) (dRow (dR h f rm l (0, 0, 0, z))) := r1.fr (w := ([(1, 1)], [])) (Fr.si Fr.rf rfl) rfl
    have c11 : gi (si V1 1 1 0) 1 1 = 0 := by rw [gi_si, if_pos ⟨rfl, rfl⟩]
    refine ⟨on (dR h f rm l (0, 0, 0, z)).1, si V1 1 1 0, V4, ?_, ?_, h, f, z, rm, h1.clr (by rw [FX4.gi 1 1 rfl]; exact c11) (by rw [F4.gi 89 11 rfl, F3.gi 89 11 rfl]; exact g11) (F.ga 2 rfl) (F.ga 96 rfl), h2.sm (Sm.of F rfl), h3.sm (Sm.of F rfl), h4.sm (Sm.of F rfl) (by omega), ?_, h6.sm (Sm.of F rfl) (by omega), h7.sm (Sm.of F rfl) (by omega), h8.sm (Sm.of F rfl), h9.sm (Sm.of F rfl), h10.fr2 Fx FX4 rfl rfl⟩
    · rw [d_X_look, e0, bd_some, d_X_readDay_0_19, xf, bd_some, if_neg (fun hn => hn rfl), d_X_treadDay_0_19]
      rw [show d_X_treadDay_0_19_10 ai_N 0 0 0 0 V0 = d_X_treadDay_0_19_10 ai_N (on 0) 0 0 (on 0) V0 from rfl, e1]; rfl
    · rw [d_M_look, e2, bd_some, if_pos (by exact Int32.le_refl _), e3, bd_some, d_M_goDay_89_103]
      rw [show d_M_goDay_89_103_7 ai_N 0 0 0 V3 = d_M_goDay_89_103_7 ai_N (on 0) 0 0 V3 from rfl, e4]; rfl
    · have c := cR.fr FX4 rfl
      exact ⟨3, by omega, c.1, r4.1, fun i hi => by rw [c.2 i hi, r4.2 i hi]⟩
