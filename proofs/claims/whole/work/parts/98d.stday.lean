/-! ===== day, look: both ===== -/
theorem dayP_bad_rng {T : Nat → Int32} {e : Nat} : ∀ (k i : Nat) {p : Nat}, dayP T e k i = .inr p → i ≤ e → p ≤ e := by
  intro k
  induction k with
  | zero => intro i p h hi; have := Sum.inr.inj h; omega
  | succ k ih =>
    intro i p h hi
    by_cases he : e ≤ i
    · rw [dayP_end _ _ he] at h; cases h
    · cases hd : dT T e i with
      | inr p2 =>
        rw [dayP_bad k (by omega) hd] at h
        have := Sum.inr.inj h
        have := dT_rng (by omega) hd
        omega
      | inl u =>
        obtain ⟨t, j⟩ := u
        rw [dayP_go k (by omega) hd] at h
        have hn := dT_next (by omega) hd
        cases hr : dayP T e k j with
        | inr p2 =>
          rw [hr] at h
          have := Sum.inr.inj h
          have := ih j hr (by omega)
          omega
        | inl l2 => rw [hr] at h; cases h
theorem dayV_in {T : Nat → Int32} {n : Nat} {l : List (List Nat)} (h : dayV n (dayP T (min n 48) 49 0) = .inl l) : n ≤ 48 ∧ dayP T n 49 0 = .inl l ∧ l.length ≤ 48 ∧ ∀ t ∈ l, tW t := by
  cases hd : dayP T (min n 48) 49 0 with
  | inr p => rw [hd] at h; cases h
  | inl l2 =>
    rw [hd] at h
    by_cases e : n ≤ 48
    · rw [dayV_y e] at h
      have := Sum.inl.inj h
      subst this
      have hok := dayP_ok 49 0 hd
      rw [show min n 48 = n by omega] at hd
      exact ⟨e, hd, by omega, hok.2⟩
    · rw [dayV_n e] at h; cases h
theorem dayV_inr {T : Nat → Int32} {n p : Nat} (h : dayV n (dayP T (min n 48) 49 0) = .inr p) : p ≤ 48 := by
  cases hd : dayP T (min n 48) 49 0 with
  | inr p2 =>
    rw [hd] at h
    have := Sum.inr.inj h
    have := dayP_bad_rng 49 0 hd (by omega)
    omega
  | inl l2 =>
    rw [hd] at h
    by_cases e : n ≤ 48
    · rw [dayV_y e] at h; cases h
    · rw [dayV_n e] at h
      have := Sum.inr.inj h
      omega
theorem X_fault {V : ai_V} {n : Nat} (hn : n ≤ 80) (h1 : gi V 1 1 = on n) : d_X_faultOfDay V = some (dayF (dayV n (dayP (ga V 2) (min n 48) 49 0))) := by
  rw [d_X_faultOfDay, h1, show (48 : Int32) = on 48 from rfl, min_on (by omega) (by omega)]
  exact fault_eq hn h1 49 0 ai_N (by omega) (N_gt (by omega)) (by omega)
theorem neg_p {p : Nat} (hp : p ≤ 48) : ¬ (0 : Int32) ≤ -1 - on p := by
  have e1 : (-1 : Int32).toInt = -1 := rfl
  have e2 := on_ti (show p < 2147483648 by omega)
  rw [ti_le, ti_sub (by omega) (by omega)]
  have e0 : (0 : Int32).toInt = 0 := rfl
  omega
def wRD : Fw := ([(89, 11), (89, 14), (89, 15), (89, 16), (89, 17), (89, 18), (89, 19), (89, 38)], [102])
theorem da_f : ∀ j, j < 12 → fw_f (26 + 3 * j) 0 ((89, 35) :: (89, 13) :: (1, 1) :: wD16.1 ++ (wRD.1 ++ wG90.1)) = false ∧ fw_f (26 + 3 * j) 1 ((89, 35) :: (89, 13) :: (1, 1) :: wD16.1 ++ (wRD.1 ++ wG90.1)) = false ∧ fw_f (26 + 3 * j) 2 ((89, 35) :: (89, 13) :: (1, 1) :: wD16.1 ++ (wRD.1 ++ wG90.1)) = false ∧ fw_a (26 + 3 * j + 1) (wD16.2 ++ 100 :: 101 :: (wRD.2 ++ wG90.2)) = false ∧ fw_a (26 + 3 * j + 2) (wD16.2 ++ 100 :: 101 :: (wRD.2 ++ wG90.2)) = false := by decide +kernel
theorem on_pos {m : Nat} (h1 : 1 ≤ m) (h2 : m ≤ 1000) : ¬ on m ≤ 0 := by
  rw [show (0 : Int32) = on 0 from rfl, on_le (by omega) (by omega)]; omega
theorem st_day {N : Nat} {V : ai_V} (hI : Inv N V) (hN : N < 512) : Step N V d_X_day d_M_day := by
  have hI0 := hI
  obtain ⟨h, f, z, rm, h1, h2, h3, h4, h5, h6, h7, h8, h9, h10⟩ := hI
  obtain ⟨kc, km, nw, hn, hb⟩ : KC V h f ∧ KM V h f ∧ ∃ nw, z.1 = on nw ∧ nw ≤ 48 * N := by
    obtain ⟨a1, a2, a3, a4, -⟩ := h2
    refine ⟨⟨a1, a2, h3.1, a4⟩, ⟨a1, a3, h3.2, storey_eq a1 h10.1 h10.2.1⟩, z.1.toNatClampNeg, (on_of (by rw [ti_le]; exact h4.1.1.1)).symm, ?_⟩
    have := h4.1.1.2
    have := ti_nn z.1
    omega
  obtain ⟨n, n80, t1, t2, tx⟩ := h1.t
  have xf := X_fault n80 t1
  have hIS := h4
  obtain ⟨s1, s2, s3, s4, s5, s6, s7, s8⟩ := h4
  cases hR : dayV n (dayP (ga V 2) (min n 48) 49 0) with
  | inr p =>
    rw [hR] at xf
    have hp := dayV_inr hR
    have F1 : Fr ([(1, 1)], []) V (si V 1 1 0) := Fr.si Fr.rf rfl
    have F1' : Fr ([(1, 1), (89, 14)], []) V (si (si V 1 1 0) 89 14 0) := Fr.si (Fr.si Fr.rf rfl) rfl
    obtain ⟨v, V2, e2, ok, g11, F2⟩ := M_readDay (V := si (si V 1 1 0) 89 14 0) n80 (by rw [F1'.gi 89 11 rfl]; exact t2) (tx.fr F1' rfl)
    rw [hR] at ok
    have hv : v = -1 - on p := ok
    subst hv
    have F12 : Fr wRD (si V 1 1 0) V2 := Fr.tr (Fr.si Fr.rf rfl) F2 rfl
    have F : Fr ((1, 1) :: wRD.1, wRD.2) V V2 := Fr.tr (Fr.tr Fr.rf F1 rfl) F12 rfl
    refine ⟨-1 - on p, si V 1 1 0, V2, ?_, ?_, h, f, z, rm, h1.clr ?_ g11 (F.ga 2 rfl) (F.ga 96 rfl), h2.sm (Sm.of F rfl), h3.sm (Sm.of F rfl), hIS.sm (Sm.of F rfl) (by omega), h5.sm (Sm.of F rfl), h6.sm (Sm.of F rfl) (by omega), h7.sm (Sm.of F rfl) (by omega), h8.sm (Sm.of F rfl), h9.sm (Sm.of F rfl), h10.fr2 F1 F12 rfl rfl⟩
    · rw [d_X_day, d_X_readDay, xf, bd_some, if_pos (show ¬ dayF (.inr p) = -1 from on_ne_m1 (by omega))]; rfl
    · rw [d_M_day, e2, bd_some, if_neg (neg_p hp)]
    · rw [F12.gi 1 1 rfl, gi_si, if_pos ⟨rfl, rfl⟩]
  | inl l =>
    rw [hR] at xf
    obtain ⟨n48, hP, l48, hW⟩ := dayV_in hR
    obtain ⟨p, x, p1, p2, p3, p4, p5, p6, p7⟩ := h6
    obtain ⟨V1, e1, z1, r1, W1⟩ := run0_16 n80 hP kc t1 hIS hn (by omega) (by omega) p1 p2 p3 p4 p6
    have drk := dR_ok (f := f) (h := h) kc.1 ⟨s6, s7⟩ l (0, 0, 0, z) (48 * N) hW (by omega) (SK.of s1) s8
    have so : SO (N + 1) (hm h) (dR h f rm l (0, 0, 0, z)).2.2.2 := drk.2.1.to (by omega)
    have FV1 : Fr (wSv.1 ++ wD16.1, wSv.2 ++ wD16.2) V V1 := by
      rcases W1 with ⟨-, F⟩ | ⟨-, Va, -, -, -, -, Fa, Fb⟩
      · exact Fr.tr Fr.rf F rfl
      · exact Fr.tr (Fr.tr Fr.rf Fa rfl) Fb rfl
    have Fx : Fr ((1, 1) :: (wSv.1 ++ wD16.1), wSv.2 ++ wD16.2) V (si V1 1 1 0) := Fr.si (Fr.tr Fr.rf FV1 rfl) rfl
    have F14 : Fr ((1, 1) :: (89, 14) :: (wSv.1 ++ wD16.1), wSv.2 ++ wD16.2) V (si (si V1 1 1 0) 89 14 0) := Fr.si (Fr.tr Fr.rf Fx rfl) rfl
    have T14 : ga (si (si V1 1 1 0) 89 14 0) 2 = ga V 2 := F14.ga 2 rfl
    obtain ⟨v, V2, e2, ok, g11, F2⟩ := M_readDay (V := si (si V1 1 1 0) 89 14 0) n80 (by rw [F14.gi 89 11 rfl]; exact t2) (tx.fr F14 rfl)
    rw [hR] at ok
    obtain ⟨rfl, o2, o3, -⟩ := ok
    have F02 : Fr ((1, 1) :: (wSv.1 ++ wD16.1 ++ wRD.1), wSv.2 ++ wD16.2 ++ wRD.2) V V2 := Fr.tr (Fr.tr Fr.rf F14 rfl) F2 rfl
    obtain ⟨V3, e3, la, -, F3⟩ := lay_90_101 (V := V2) (k := 0) (by omega)
    have F03 : Fr ((1, 1) :: (wSv.1 ++ wD16.1 ++ wRD.1), wSv.2 ++ wD16.2 ++ 101 :: wRD.2) V V3 := Fr.tr (Fr.tr Fr.rf F02 rfl) F3 rfl
    obtain ⟨V4, e4, z4, r4, F4⟩ := go_90 (h := h) (f := f) (rm := rm) l ai_N 0 0 0 z nw V3 hW (by rw [F3.gi 89 38 rfl]; exact o2) (fun j hj => by rw [F3.ga 102 rfl]; exact o3 j hj) (by omega) (km.fr F03 rfl) (s3.fr F03 rfl) (by rw [F03.gi 89 8 rfl]; exact s5) hn (by omega) (N_gt (by omega))
    have FX4 : Fr ((89, 13) :: wRD.1 ++ wG90.1, 101 :: wRD.2 ++ wG90.2) (si V1 1 1 0) V4 := Fr.tr (Fr.tr (Fr.tr (Fr.si Fr.rf rfl) F2 rfl) F3 rfl) F4 rfl
    have m3 : mS z V3 101 0 := mS_of (s3.fr F02 rfl) la
    have m4 : mS z V4 101 0 := m3.fr F4 rfl
    have dX : d_X_day V = some (on (dR h f rm l (0, 0, 0, z)).1, si V1 1 1 0) := by
      rw [d_X_day, d_X_readDay, xf, bd_some, if_neg (fun hn => hn rfl), e1]; rfl
    have c16 : cS (dR h f rm l (0, 0, 0, z)).2.2.2 (si V1 1 1 0) 16 := z1.fr (w := ([(1, 1)], [])) (Fr.si Fr.rf rfl) rfl rfl rfl rfl
    have cR : cRow (si V1 1 1 0) (dRow (dR h f rm l (0, 0, 0, z))) := r1.fr (w := ([(1, 1)], [])) (Fr.si Fr.rf rfl) rfl
    have c11 : gi (si V1 1 1 0) 1 1 = 0 := by rw [gi_si, if_pos ⟨rfl, rfl⟩]
    rcases W1 with ⟨w0, FW⟩ | ⟨w1, Va, g1, g2, c1, c2, Fa, Fb⟩
    · have hle : on (dR h f rm l (0, 0, 0, z)).1 ≤ 0 := by rw [w0]; exact Int32.le_refl _
      have FW' : Fr ((1, 1) :: wD16.1, wD16.2) V (si V1 1 1 0) := Fr.si (Fr.tr Fr.rf FW rfl) rfl
      have F : Fr ((89, 13) :: (1, 1) :: wD16.1 ++ (wRD.1 ++ wG90.1), wD16.2 ++ 101 :: (wRD.2 ++ wG90.2)) V V4 := Fr.tr (Fr.tr Fr.rf FW' rfl) FX4 rfl
      refine ⟨_, _, V4, dX, ?_, h, f, (dR h f rm l (0, 0, 0, z)).2.2.2, rm, h1.clr (by rw [FX4.gi 1 1 rfl]; exact c11) (by rw [F4.gi 89 11 rfl, F3.gi 89 11 rfl]; exact g11) (F.ga 2 rfl) (F.ga 96 rfl), h2.sm (Sm.of F rfl), h3.sm (Sm.of F rfl), ⟨so, c16.fr FX4 rfl rfl rfl rfl, z4, by rw [F.gi 16 2 rfl]; exact s4, by rw [F.gi 89 8 rfl]; exact s5, s6, s7, drk.2.2⟩, ?_, (show IP N V h from ⟨p, x, p1, p2, p3, p4, p5, p6, p7⟩).sm (Sm.of F rfl) (by omega), h7.sm (Sm.of F rfl) (by omega), h8.sm (Sm.of F rfl), h9.sm (Sm.of F rfl), h10.fr2 FW' FX4 rfl rfl⟩
      · rw [d_M_day, e2, bd_some, if_pos (by exact Int32.le_refl _), show (0 : Int32) = on 0 from rfl, e3, bd_some, d_M_goDay, show (0 : Int32) = on 0 from rfl]
        rw [show d_M_goDay_7 ai_N (on 0) (on 0) (on 0) V3 = d_M_goDay_7 ai_N (on 0) 0 0 V3 from rfl, e4, bd_some, if_pos (by exact hle)]; rfl
      · have c := cR.fr FX4 rfl
        exact ⟨3, by omega, c.1, r4.1, fun i hi => by rw [c.2 i hi, r4.2 i hi]⟩
    · have hgt : ¬ on (dR h f rm l (0, 0, 0, z)).1 ≤ 0 := by
        have h48 : (dR h f rm l (0, 0, 0, z)).1 ≤ 0 + l.length := drk.1.2
        exact on_pos w1 (by omega)
      obtain ⟨V5, e5, g5, m5, m6, F5⟩ := rem_101 (z := z) p1 (by rw [F4.gi 89 35 rfl, F03.gi 89 35 rfl]; exact p5) m4
      have FX5 : Fr ((89, 35) :: (89, 13) :: wRD.1 ++ wG90.1, 100 :: 101 :: wRD.2 ++ wG90.2) (si V1 1 1 0) V5 := Fr.tr (Fr.tr Fr.rf FX4 rfl) F5 rfl
      have F : Fr ((89, 35) :: (89, 13) :: (1, 1) :: (wSv.1 ++ wD16.1) ++ (wRD.1 ++ wG90.1), wSv.2 ++ wD16.2 ++ 100 :: 101 :: (wRD.2 ++ wG90.2)) V V5 := Fr.tr (Fr.tr Fr.rf Fx rfl) FX5 rfl
      have Fb1 : Fr ((1, 1) :: wD16.1, wD16.2) Va (si V1 1 1 0) := Fr.si (Fr.tr Fr.rf Fb rfl) rfl
      have Fab : Fr ((89, 35) :: (89, 13) :: (1, 1) :: wD16.1 ++ (wRD.1 ++ wG90.1), wD16.2 ++ 100 :: 101 :: (wRD.2 ++ wG90.2)) Va V5 := Fr.tr (Fr.tr Fr.rf Fb1 rfl) FX5 rfl
      have cj : ∀ j, j < 12 → ∀ y, cS y Va (26 + 3 * j) → cS y V5 (26 + 3 * j) := by
        intro j hj y hy
        have t := da_f j hj
        exact hy.fr Fab t.1 t.2.1 t.2.2.2.1 t.2.2.2.2
      refine ⟨_, _, V5, dX, ?_, h, f, (dR h f rm l (0, 0, 0, z)).2.2.2, rm, h1.clr (by rw [FX5.gi 1 1 rfl]; exact c11) (by rw [F5.gi 89 11 rfl, F4.gi 89 11 rfl, F3.gi 89 11 rfl]; exact g11) (F.ga 2 rfl) (F.ga 96 rfl), h2.sm (Sm.of F rfl), h3.sm (Sm.of F rfl), ⟨so, c16.fr FX5 rfl rfl rfl rfl, z4.fr F5 rfl, by rw [F.gi 16 2 rfl]; exact s4, by rw [F.gi 89 8 rfl]; exact s5, s6, s7, drk.2.2⟩, ?_, ?_, h7.sm (Sm.of F rfl) (by omega), h8.sm (Sm.of F rfl), h9.sm (Sm.of F rfl), h10.fr2 Fx FX5 rfl rfl⟩
      · rw [d_M_day, e2, bd_some, if_pos (by exact Int32.le_refl _), show (0 : Int32) = on 0 from rfl, e3, bd_some, d_M_goDay, show (0 : Int32) = on 0 from rfl]
        rw [show d_M_goDay_7 ai_N (on 0) (on 0) (on 0) V3 = d_M_goDay_7 ai_N (on 0) 0 0 V3 from rfl, e4, bd_some, if_neg (by exact hgt), e5, bd_some]; rfl
      · have c := cR.fr FX5 rfl
        have r5 := r4.fr F5 rfl
        exact ⟨3, by omega, c.1, r5.1, fun i hi => by rw [c.2 i hi, r5.2 i hi]⟩
      · refine IP.push p1 p2 p7 s1 ?_ ?_ g5 ?_ (cj _ p2 _ c1) (fun j hj hne y hy => cj j hj y (c2 j hj hne y hy)) m5 ?_
        · rw [Fab.gi 24 1 rfl]; exact g1
        · rw [Fab.gi 24 2 rfl]; exact g2
        · intro j hj
          rw [Fab.gi _ _ (da_f j hj).2.2.1, Fa.gi _ _ (sv_16 j hj)]; exact p6 j hj
        · intro e he y hy
          exact m6 e he y ((hy.fr F03 rfl).fr F4 rfl)
