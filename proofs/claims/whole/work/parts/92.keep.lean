/-! ===== keep, again, undo, quarter ===== -/
theorem mn999 {x : Int32} (h : x.toInt ≤ 999) : ai_min x 999 = x := by
  rw [ti_eq, ai_min_ti]
  have : (999 : Int32).toInt = 999 := rfl
  omega
theorem zm999 {z : Ss} (h : z.2.1.toInt ≤ 999) : (z.1, ai_min z.2.1 999, z.2.2.1, z.2.2.2) = z := by rw [mn999 h]
theorem mS_at {V V' : ai_V} {z : Ss} {A B k b : Nat} (hz : mS z V A b) (h : ∀ j, j < 14 → ga V' B (k + j) = ga V A (b + j)) : mS z V' B k := by
  obtain ⟨h1, h2, h3⟩ := hz
  exact ⟨by rw [h 13 (by omega)]; exact h1, by rw [h 12 (by omega)]; exact h2, fun j hj => ⟨by rw [h j (by omega)]; exact (h3 j hj).1, by rw [h (6 + j) (by omega)]; exact (h3 j hj).2⟩⟩
def wKp : Fw := ([(83, 0), (83, 1), (86, 0), (86, 1)], [84, 85, 87, 88, 63])
theorem keep_X {V : ai_V} {z : Ss} {m i : Nat} (hi : i < 2) (hz : cS z V 16) (hr : gi V (83 + 3 * i) 2 = 999) (hl : z.2.1.toInt ≤ 999) (hC : gi V 3 0 = on m) :
    ∃ V1, d_X_keep (on i) V = some (1, V1) ∧ cS z V1 (83 + 3 * i) ∧ ga V1 63 i = on m ∧ (∀ j, j < 2 → j ≠ i → ga V1 63 j = ga V 63 j ∧ ∀ y, cS y V (83 + 3 * j) → cS y V1 (83 + 3 * j)) ∧ Fr wKp V V1 := by
  rcases (show i = 0 ∨ i = 1 by omega) with e | e <;> subst e
  · obtain ⟨V', e, c, F⟩ := bec_83_16 hz hr
    rw [zm999 hl] at c
    have FK : Fr wKp V V' := Fr.tr Fr.rf F rfl
    refine ⟨sa V' 63 0 (on m), ?_, c.fr (w := ([], [63])) (Fr.sa Fr.rf rfl) rfl rfl rfl rfl, by rw [ga_sa, if_pos ⟨rfl, rfl⟩], ?_, Fr.sa FK rfl⟩
    · rw [d_X_keep, if_neg (by decide), if_pos (by decide), if_pos (by decide), e, bd_some, if_pos (by decide), F.gi 3 0 rfl, hC]; rfl
    · intro j hj hn
      have ej : j = 1 := by omega
      subst ej
      refine ⟨by rw [ga_sa, if_neg (by omega), F.ga 63 rfl], fun y hy => ?_⟩
      have F2 : Fr ([(83, 0), (83, 1)], [84, 85, 63]) V (sa V' 63 0 (on m)) := Fr.sa (Fr.tr Fr.rf F rfl) rfl
      exact hy.fr F2 rfl rfl rfl rfl
  · obtain ⟨V', e, c, F⟩ := bec_86_16 hz hr
    rw [zm999 hl] at c
    have FK : Fr wKp V V' := Fr.tr Fr.rf F rfl
    refine ⟨sa V' 63 1 (on m), ?_, c.fr (w := ([], [63])) (Fr.sa Fr.rf rfl) rfl rfl rfl rfl, by rw [ga_sa, if_pos ⟨rfl, rfl⟩], ?_, Fr.sa FK rfl⟩
    · rw [d_X_keep, if_neg (by decide), if_pos (by decide), if_neg (by decide), if_pos (by decide), e, bd_some, if_pos (by decide), F.gi 3 0 rfl, hC]; rfl
    · intro j hj hn
      have ej : j = 0 := by omega
      subst ej
      refine ⟨by rw [ga_sa, if_neg (by omega), F.ga 63 rfl], fun y hy => ?_⟩
      have F2 : Fr ([(86, 0), (86, 1)], [87, 88, 63]) V (sa V' 63 1 (on m)) := Fr.sa (Fr.tr Fr.rf F rfl) rfl
      exact hy.fr F2 rfl rfl rfl rfl
theorem keep_M {V : ai_V} {z : Ss} {c : Int32} {i : Nat} (hi : i < 2) (hz : mS z V 90 0) (hc : gi V 89 58 = c) :
    ∃ V1, d_M_keep (on i) V = some (1, V1) ∧ mS z V1 115 (14 * i) ∧ ga V1 116 i = 1 ∧ ga V1 117 i = c ∧ (∀ j, j < 2 → j ≠ i → ga V1 116 j = ga V 116 j ∧ ga V1 117 j = ga V 117 j ∧ ∀ y, mS y V 115 (14 * j) → mS y V1 115 (14 * j)) ∧ Fr ([(89, 14)], [115, 116, 117]) V V1 := by
  have hin : ai_in (on i) 2 := by rw [on_in (by omega)]; omega
  have hnn : (on i).toNatClampNeg = i := on_nn (by omega)
  have hio : (0 : Int32) ≤ on i ∧ on i ≤ 1 := by
    refine ⟨on_ge0 (by omega), ?_⟩
    rw [show (1 : Int32) = on 1 from rfl, on_le (by omega) (by omega)]; omega
  have n1 : vp_nar .boolean (1 : Int32) = 1 := by decide
  have g58 : gi (sa (si V 89 14 0) 116 i 1) 89 58 = c := by rw [gi_sa, m14 _ _ 89 58 (by decide), hc]
  obtain ⟨V', e, l1, l2, F⟩ := lay_90_115 (V := sa (sa (si V 89 14 0) 116 i 1) 117 i c) (k := 14 * i) (by omega)
  have F0 : Fr ([(89, 14)], [115, 116, 117]) V (sa (sa (si V 89 14 0) 116 i 1) 117 i c) := Fr.sa (Fr.sa (Fr.si Fr.rf rfl) rfl) rfl
  refine ⟨V', ?_, ?_, ?_, ?_, ?_, Fr.tr F0 F rfl⟩
  · rw [d_M_keep, in_eq, bd_some, if_pos (by rw [tf_pos hio]; decide), if_pos hin, if_pos hin, hnn, n1, g58, show (14 : Int32) = on 14 from rfl, on_mul, e, bd_some]
  · exact mS_of (hz.fr F0 rfl) l1
  · rw [F.ga 116 rfl, ga_sa_ne (by decide), ga_sa, if_pos ⟨rfl, rfl⟩]
  · rw [F.ga 117 rfl, ga_sa, if_pos ⟨rfl, rfl⟩]
  · intro j hj hn
    refine ⟨by rw [F.ga 116 rfl, ga_sa_ne (by decide), ga_sa, if_neg (by omega), ga_si], by rw [F.ga 117 rfl, ga_sa, if_neg (by omega), ga_sa_ne (by decide), ga_si], fun y hy => mS_at hy fun k hk => ?_⟩
    rw [l2 _ (by omega), ga_sa_ne (by decide), ga_sa_ne (by decide), ga_si]
theorem two_of {x : Int32} (h : 0 ≤ x ∧ x < 2) : ∃ i, i < 2 ∧ x = on i := by
  refine ⟨x.toNatClampNeg, ?_, (on_of h.1).symm⟩
  have h2 := h.2
  rw [← on_of h.1, show (2 : Int32) = on 2 from rfl, on_lt x.toNatClampNeg_lt (by omega)] at h2
  exact h2
theorem le1_lt2 {x : Int32} : x ≤ 1 ↔ x < 2 := by
  rw [ti_le, ti_lt]
  have e1 : (1 : Int32).toInt = 1 := rfl
  have e2 : (2 : Int32).toInt = 2 := rfl
  omega
theorem st_keep {N : Nat} {V : ai_V} (hI : Inv N V) (hN : N < 512) (x : Int32) : Step N V (d_X_keep x) (d_M_keep x) := by
  have hI0 := hI
  obtain ⟨h, f, z, rm, h1, h2, h3, h4, h5, h6, ⟨c, c1, c2, h7⟩, h8, h9, h10⟩ := hI
  by_cases hx : 0 ≤ x ∧ x < 2
  · obtain ⟨i, hi, rfl⟩ := two_of hx
    obtain ⟨V1, e1, a1, a2, a3, F1⟩ := keep_X hi h4.2.1 (h7 i hi).1 h4.1.2.1.2 h2.2.1.1
    obtain ⟨V2, e2, b1, b2, b3, b4, F2⟩ := keep_M (c := on c) hi (h4.2.2.1.fr F1 rfl) (by rw [F1.gi 89 58 rfl]; exact c2)
    have F : Fr ([(83, 0), (83, 1), (86, 0), (86, 1), (89, 14)], [84, 85, 87, 88, 63, 115, 116, 117]) V V2 := Fr.tr (Fr.tr Fr.rf F1 rfl) F2 rfl
    refine ⟨1, V1, V2, e1, e2, h, f, z, rm, h1.sm (Sm.of F rfl), h2.sm (Sm.of F rfl), h3.sm (Sm.of F rfl), h4.sm (Sm.of F rfl) (by omega), h5.sm (Sm.of F rfl), h6.sm (Sm.of F rfl) (by omega), ⟨c, c1, by rw [F.gi 89 58 rfl]; exact c2, fun j hj => ⟨?_, ?_⟩⟩, h8.sm (Sm.of F rfl), h9.sm (Sm.of F rfl), h10.sm (Sm.of F rfl)⟩
    · rcases (show j = 0 ∨ j = 1 by omega) with e | e <;> subst e
      · rw [F.gi 83 2 rfl]; exact (h7 0 hj).1
      · rw [F.gi 86 2 rfl]; exact (h7 1 hj).1
    · by_cases e : j = i
      · subst e
        refine Or.inr ⟨b2, hm h, c, by rw [F2.ga 63 rfl]; exact a2, b3, Or.inl ⟨rfl, rfl, z, h4.1.mono (by omega), ?_, b1⟩⟩
        rcases (show j = 0 ∨ j = 1 by omega) with e | e <;> subst e
        · exact a1.fr F2 rfl rfl rfl rfl
        · exact a1.fr F2 rfl rfl rfl rfl
      · obtain ⟨p1, p2⟩ := a3 j hj e
        obtain ⟨p3, p4, p5⟩ := b4 j hj e
        rw [F2.ga 63 rfl, p1, p3, p4, F1.ga 116 rfl, F1.ga 117 rfl]
        rcases (h7 j hj).2 with q | ⟨q1, k, d, q2, q3, ⟨q4, q5, y, q6, q7, q8⟩ | q4⟩
        · exact Or.inl q
        · refine Or.inr ⟨q1, k, d, q2, q3, Or.inl ⟨q4, q5, y, q6.mono (by omega), ?_, p5 y (q8.fr F1 rfl)⟩⟩
          have := p2 y q7
          rcases (show j = 0 ∨ j = 1 by omega) with e | e <;> subst e
          · exact this.fr F2 rfl rfl rfl rfl
          · exact this.fr F2 rfl rfl rfl rfl
        · exact Or.inr ⟨q1, k, d, q2, q3, Or.inr q4⟩
  · refine ⟨0, V, si V 89 14 0, ?_, ?_, hI0.no 0⟩
    · rw [d_X_keep]
      by_cases e : x < 0
      · rw [if_pos e]
      · rw [if_neg e, if_neg (fun e2 => hx ⟨nlt.mp e, e2⟩)]
    · rw [d_M_keep, in_eq, bd_some, if_neg (fun hn => hn (tf_neg (fun hc => hx ⟨hc.1, le1_lt2.mp hc.2⟩)))]
/-! the model lays a state back -/
theorem M_back {V : ai_V} {z : Ss} {rm : Int32} {i : Nat} (hi : i < 2) (hz : mS z V 115 (14 * i)) (hr : gi V 89 8 = rm) :
    ∃ V1, d_M_again_40 ai_N (on i) 0 V = some (1, V1) ∧ mS (z.1, ai_min z.2.1 rm, z.2.2.1, z.2.2.2) V1 90 0 ∧ gi V1 89 35 = 0 ∧ Fr ([(89, 35)], [90]) V V1 := by
  have := loop_n (fun n (_ : Unit) y V => d_M_again_40 n (on i) y V) (fun c : Int32 × ai_V => some c) (fun k _ V' => (∀ j, j < k → ga V' 90 j = ga V 115 (14 * i + j)) ∧ Fr ([], [90]) V V') (fun c => c.1 = 1 ∧ mS (z.1, ai_min z.2.1 rm, z.2.2.1, z.2.2.2) c.2 90 0 ∧ gi c.2 89 35 = 0 ∧ Fr ([(89, 35)], [90]) V c.2) 14 ?_ ?_ 14 0 ai_N () V (by omega) (N_gt (by omega)) ⟨fun j hj => by omega, Fr.rf⟩
  · obtain ⟨⟨c1, c2⟩, e, q1, q⟩ := this
    simp only at q1
    subst q1
    exact ⟨c2, e, q⟩
  · rintro n a k V1 hk ⟨a1, hF⟩
    show ∃ (_ : Unit) (V' : ai_V), d_M_again_40 (n + 1) (on i) (on k) V1 = _ ∧ _
    rw [d_M_again_40, show (14 : Int32) = on 14 from rfl, if_neg (by rw [on_le (by omega) (by omega)]; omega), on_mul, on_add, if_pos (by rw [on_in (by omega)]; omega), if_pos (by rw [on_in (by omega)]; omega), on_nn (by omega), on_nn (by omega), on_s]
    refine ⟨(), _, rfl, fun j hj => ?_, Fr.sa hF rfl⟩
    rw [ga_sa]
    by_cases e : j = k
    · rw [if_pos ⟨rfl, e⟩, e, hF.ga 115 rfl]
    · rw [if_neg (by omega)]; exact a1 j (by omega)
  · rintro n a V1 ⟨a1, hF⟩
    show ∃ c : Int32 × ai_V, d_M_again_40 (n + 1) (on i) (on 14) V1 = _ ∧ _
    have a12 := a1 12 (by omega)
    obtain ⟨z1, z2, z3⟩ := hz
    rw [d_M_again_40, if_pos (by decide), show ((12 : Int32)).toNatClampNeg = 12 from rfl, a12, z2, hF.gi 89 8 rfl, hr]
    refine ⟨_, rfl, rfl, ⟨?_, ?_, fun j hj => ⟨?_, ?_⟩⟩, by rw [gi_si, if_pos ⟨rfl, rfl⟩], Fr.si (Fr.sa (Fr.tr Fr.rf hF rfl) rfl) rfl⟩
    · rw [ga_si, Nat.zero_add, ga_sa, if_neg (by omega), a1 13 (by omega)]; exact z1
    · rw [ga_si, Nat.zero_add, ga_sa, if_pos ⟨rfl, rfl⟩]
    · rw [ga_si, Nat.zero_add, ga_sa, if_neg (by omega), a1 _ (by omega)]; exact (z3 j hj).1
    · rw [ga_si, Nat.zero_add, ga_sa, if_neg (by omega), a1 _ (by omega)]; exact (z3 j hj).2
theorem SO.cut {N m : Nat} {z : Ss} {rm : Int32} (h : SO N m z) (hr : 1 ≤ rm.toInt) : SO (N + 1) m (z.1, ai_min z.2.1 rm, z.2.2.1, z.2.2.2) ∧ (ai_min z.2.1 rm).toInt ≤ rm.toInt := by
  have hmn : (ai_min z.2.1 rm).toInt = min z.2.1.toInt rm.toInt := ai_min_ti _ _
  obtain ⟨⟨o0, o1⟩, o2, o3⟩ := h
  exact ⟨⟨⟨o0, by show z.1.toInt ≤ _; omega⟩, ⟨by rw [hmn]; omega, by rw [hmn]; omega⟩, o3⟩, by rw [hmn]; omega⟩
theorem IP2_f : ∀ j, j < 12 → fw_f (26 + 3 * j) 2 ((List.range 12).map (fun j => (26 + 3 * j, 2))) = true := by decide +kernel
theorem st_again {N : Nat} {V : ai_V} (hI : Inv N V) (hN : N < 512) (x : Int32) : Step N V (d_X_again x) (d_M_again x) := by
  have hI0 := hI
  obtain ⟨h, f, z, rm, h1, h2, h3, h4, h5, h6, h7, h8, h9, h10⟩ := hI
  have hI7 := h7
  obtain ⟨c, c1, c2, h7⟩ := h7
  by_cases hx : 0 ≤ x ∧ x < 2
  · obtain ⟨i, hi, rfl⟩ := two_of hx
    have hm6 := h2.1.1
    have hin : ai_in (on i) 2 := by rw [on_in (by omega)]; omega
    have hnn : (on i).toNatClampNeg = i := on_nn (by omega)
    have xa : d_X_again (on i) V = if ga V 63 i = on (hm h) then (if on i = (0 : Int32) then ((d_State_becomes_16_83 V).bind fun q3 => ((d_Past_clear q3).bind fun q4 => (some ((1 : Int32), q4)))) else (if on i = (1 : Int32) then ((d_State_becomes_16_86 V).bind fun q1 => ((d_Past_clear q1).bind fun q2 => (some ((1 : Int32), q2)))) else none)) else some (0, V) := by
      rw [d_X_again, if_neg (nlt.mpr hx.1), if_neg (fun e => absurd hx.2 (nlt.mpr e)), if_pos hin, hnn, h2.2.1.1]
    have ma : ∀ W w, Fr w V W → fw_dis cIK w = true → d_M_again (on i) W = if ga V 116 i = 0 then some (0, si W 89 14 0) else if ga V 117 i = on c then d_M_again_40 ai_N (on i) 0 (si W 89 14 0) else some (0, si W 89 14 0) := by
      intro W w F hd
      have t := Sm.of F hd
      rw [d_M_again, in_eq, bd_some, if_neg (by rw [tf_pos ⟨hx.1, le1_lt2.mpr hx.2⟩]; decide), if_pos hin, if_pos hin, hnn, ga_si, ga_si, t.a 116 rfl, t.a 117 rfl, m14 _ _ 89 58 (by decide), t.i 89 58 rfl, c2]
    rcases (h7 i hi).2 with ⟨q1, q2⟩ | ⟨q1, k, d, q2, q3, ⟨rfl, rfl, y, q6, q7, q8⟩ | q4⟩
    · refine ⟨0, V, si V 89 14 0, ?_, ?_, hI0.no 0⟩
      · rw [xa, if_neg (by rw [q1]; exact fun e => on_ne_m1 (by omega) e.symm)]
      · rw [ma V ([], []) Fr.rf rfl, if_pos q2]
    · have XB : ∃ V1, d_X_again (on i) V = some (1, si V1 24 1 0) ∧ cS (y.1, ai_min y.2.1 rm, y.2.2.1, y.2.2.2) V1 16 ∧ Fr ([(16, 0), (16, 1)], [17, 18]) V V1 := by
        rw [xa, if_pos q2]
        rcases (show i = 0 ∨ i = 1 by omega) with e | e <;> subst e
        · obtain ⟨V1, e1, d1, F1⟩ := bec_16_83 q7 h4.2.2.2.1
          exact ⟨V1, by rw [if_pos (by decide), e1]; rfl, d1, F1⟩
        · obtain ⟨V1, e1, d1, F1⟩ := bec_16_86 q7 h4.2.2.2.1
          exact ⟨V1, by rw [if_neg (by decide), if_pos (by decide), e1]; rfl, d1, F1⟩
      obtain ⟨V1, e1, d1, F1⟩ := XB
      have F1' : Fr ([(16, 0), (16, 1), (24, 1), (89, 14)], [17, 18]) V (si (si V1 24 1 0) 89 14 0) := Fr.si (Fr.si (Fr.tr Fr.rf F1 rfl) rfl) rfl
      obtain ⟨V2, e2, m1, m2, F2⟩ := M_back (rm := rm) hi (q8.fr F1' rfl) (by rw [F1'.gi 89 8 rfl]; exact h4.2.2.2.2.1)
      have F : Fr ([(16, 0), (16, 1), (24, 1), (89, 14), (89, 35)], [17, 18, 90]) V V2 := Fr.tr (Fr.tr Fr.rf F1' rfl) F2 rfl
      obtain ⟨s1, s2, s3, s4, s5, s6, s7, s8⟩ := h4
      have cut := q6.cut s6
      obtain ⟨p, xx, p1, p2, p3, p4, p5, p6, p7⟩ := h6
      have F12 : Fr ([(24, 1), (89, 14), (89, 35)], [90]) V1 V2 := Fr.tr (Fr.si (Fr.si Fr.rf rfl) rfl) F2 rfl
      refine ⟨1, si V1 24 1 0, V2, e1, ?_, h, f, (y.1, ai_min y.2.1 rm, y.2.2.1, y.2.2.2), rm, h1.sm (Sm.of F rfl), h2.sm (Sm.of F rfl), h3.sm (Sm.of F rfl), ⟨cut.1, d1.fr F12 rfl rfl rfl rfl, m1, by rw [F.gi 16 2 rfl]; exact s4, by rw [F.gi 89 8 rfl]; exact s5, s6, s7, cut.2⟩, h5.sm (Sm.of F rfl), ?_, hI7.sm (Sm.of F rfl) (by omega), h8.sm (Sm.of F rfl), h9.sm (Sm.of F rfl), h10.sm (Sm.of F rfl)⟩
      · rw [ma (si V1 24 1 0) ([(16, 0), (16, 1), (24, 1)], [17, 18]) (Fr.si (Fr.tr Fr.rf F1 rfl) rfl) rfl, if_neg (by rw [q1]; decide), if_pos q3, e2]
      · refine ⟨0, xx, by omega, p2, ?_, by rw [F.gi 24 2 rfl]; exact p4, m2, ?_, fun e he => by omega⟩
        · rw [F2.gi 24 1 rfl, m14 _ _ 24 1 (by decide), gi_si, if_pos ⟨rfl, rfl⟩]; rfl
        · intro j hj
          have t := (Sm.of (c := ((List.range 12).map (fun j => (26 + 3 * j, 2)), [])) F rfl).i (26 + 3 * j) 2
          rw [t (IP2_f j hj)]; exact p6 j hj
    · refine ⟨0, V, si V 89 14 0, ?_, ?_, hI0.no 0⟩
      · rw [xa, if_neg (by rw [q2, on_inj (by omega) (by omega)]; omega)]
      · rw [ma V ([], []) Fr.rf rfl, if_neg (by rw [q1]; decide), if_neg (by rw [q3, on_inj (by omega) (by omega)]; omega)]
  · refine ⟨0, V, si V 89 14 0, ?_, ?_, hI0.no 0⟩
    · rw [d_X_again]
      by_cases e : x < 0
      · rw [if_pos e]
      · rw [if_neg e, if_pos (nlt.mp (fun e2 => hx ⟨nlt.mp e, e2⟩))]
    · rw [d_M_again, in_eq, bd_some, if_pos (tf_neg (fun hc => hx ⟨hc.1, le1_lt2.mp hc.2⟩))]
