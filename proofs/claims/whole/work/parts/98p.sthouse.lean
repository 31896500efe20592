/-! ===== house ===== -/
theorem lT_rng {T : Nat → Int32} {e a p : Nat} (ha : a ≤ e) (hd : lT T e a = .inr p) : p ≤ e := by
  rcases lT_cases T e a with ⟨c0, d⟩ | ⟨c0, c1, d⟩ | ⟨c0, c1, c2, d⟩ | ⟨c0, c1, c2, c3, d⟩ | ⟨c0, c1, c2, c3, c4, d⟩ | ⟨c0, c1, c2, c3, c4, d⟩ <;> rw [hd] at d
  · have := Sum.inr.inj d; omega
  · have := Sum.inr.inj d; omega
  · have := Sum.inr.inj d; omega
  · have := Sum.inr.inj d; omega
  · have := Sum.inr.inj d; omega
  · cases d
theorem hP_rng {T : Nat → Int32} {e m : Nat} : ∀ (k L a : Nat) {p : Nat}, hP T e m k L a = .inr p → a ≤ e → p ≤ e := by
  intro k
  induction k with
  | zero => intro L a p h ha; have := Sum.inr.inj h; omega
  | succ k ih =>
    intro L a p h ha
    by_cases full : 6 ≤ m + L
    · rw [hP_full k full] at h; have := Sum.inr.inj h; omega
    · cases hd : lT T e a with
      | inr p2 =>
        rw [hP_bad k full hd] at h
        have := Sum.inr.inj h
        have := lT_rng ha hd
        omega
      | inl w =>
        rw [hP_go k full hd] at h
        by_cases e1 : e ≤ a + 4 + w
        · rw [if_pos e1] at h; cases h
        · rw [if_neg e1] at h
          by_cases e9 : T (a + 4 + w) = 59
          · rw [if_pos e9] at h
            cases hr : hP T e m k (L + 1) (a + 4 + w + 1) with
            | inr p2 =>
              rw [hr] at h
              have := Sum.inr.inj h
              have := ih (L + 1) (a + 4 + w + 1) hr (by omega)
              omega
            | inl l => rw [hr] at h; cases h
          · rw [if_neg e9] at h
            have := Sum.inr.inj h
            omega
theorem hV_inr {T : Nat → Int32} {n m p : Nat} (h : hV n (hP T (min n 76) m 77 0 0) = .inr p) : p ≤ 76 := by
  cases hd : hP T (min n 76) m 77 0 0 with
  | inr p2 =>
    rw [hd] at h
    have := Sum.inr.inj h
    have := hP_rng 77 0 0 hd (by omega)
    omega
  | inl l2 =>
    rw [hd] at h
    by_cases e : n ≤ 76
    · rw [hV_y e] at h; cases h
    · rw [hV_n e] at h
      have := Sum.inr.inj h
      omega
theorem hV_inl {T : Nat → Int32} {n m : Nat} {l : List (Nat × Nat)} (h : hV n (hP T (min n 76) m 77 0 0) = .inl l) : n ≤ 76 ∧ hP T n m 77 0 0 = .inl l := by
  cases hd : hP T (min n 76) m 77 0 0 with
  | inr p => rw [hd] at h; cases h
  | inl l2 =>
    rw [hd] at h
    by_cases e : n ≤ 76
    · rw [hV_y e] at h
      have := Sum.inl.inj h
      subst this
      rw [show min n 76 = n by omega] at hd
      exact ⟨e, hd⟩
    · rw [hV_n e] at h; cases h
theorem neg_p2 {p : Nat} (hp : p ≤ 100) : -1 - on p ≤ (0 : Int32) := by
  have e1 : (-1 : Int32).toInt = -1 := rfl
  have e2 := on_ti (show p < 2147483648 by omega)
  rw [ti_le, ti_sub (by omega) (by omega)]
  have e0 : (0 : Int32).toInt = 0 := rfl
  omega
theorem SO.grow {N N' m m' : Nat} {z : Ss} (h : SO N m z) (hN : N ≤ N') (hm : m ≤ m') : SO N' m' z :=
  ⟨⟨h.1.1, by have := h.1.2; omega⟩, h.2.1, fun k hk => ⟨(h.2.2 k hk).1, fun hmk => (h.2.2 k hk).2 (by omega)⟩⟩
def wHs : Fw := ([(89, 11), (89, 14), (89, 15), (89, 16), (89, 17), (89, 18), (89, 19)], [98])
theorem st_house {N : Nat} {V : ai_V} (hI : Inv N V) (hN : N < 512) : Step N V d_X_house d_M_house := by
  obtain ⟨h, f, z, rm, h1, h2, h3, h4, h5, h6, h7, h8, h9, h10⟩ := hI
  have hI2 := h2
  obtain ⟨a1, a2, a3, a4, a5, b, b64, hb⟩ := h2
  obtain ⟨n, n80, t1, t2, tx⟩ := h1.t
  have m6 := a1.1
  -- the model begins
  have MB : ∀ (W : ai_V), gi W 89 11 = on n → ∃ W2, d_M_house W = (if ¬ on n = 0 then d_M_house_37 ai_N (on 0) 1 W2 else some (0, W2)) ∧ MT W2 n 76 0 ∧ gi W2 89 11 = 0 ∧ Fr ([(89, 11), (89, 14), (89, 15), (89, 16), (89, 17), (89, 18), (89, 19)], []) W W2 := by
    intro W hW
    refine ⟨si (si (si (si (si (sr (si W 89 14 0) 89 15 (some 96)) 89 16 (on n)) 89 17 (76 : Int32)) 89 18 (0 : Int32)) 89 19 (-1 : Int32)) 89 11 0, ?_, ⟨?_, ?_, ?_, ?_, ?_⟩, ?_, Fr.si (Fr.si (Fr.si (Fr.si (Fr.si (Fr.sr (Fr.si Fr.rf rfl) rfl (Or.inl rfl)) rfl) rfl) rfl) rfl) rfl⟩
    · have g16 : gi (si (si (si (si (si (sr (si W 89 14 0) 89 15 (some 96)) 89 16 (on n)) 89 17 (76 : Int32)) 89 18 (0 : Int32)) 89 19 (-1 : Int32)) 89 11 0) 89 16 = on n := by simp only [gi_si]; simp
      rw [d_M_house, m14 _ _ 89 11 (by decide), hW, d_M_begin, bd_some, g16]; rfl
    · simp only [gr_si]; rw [gr_sr, if_pos ⟨rfl, rfl⟩]
    · simp only [gi_si]; simp
    · simp only [gi_si]; simp; rfl
    · simp only [gi_si]; simp; rfl
    · simp only [gi_si]; simp
    · simp only [gi_si]; simp
  by_cases n0 : n = 0
  · subst n0
    obtain ⟨W2, e2, m2, g2, F2⟩ := MB V t2
    have F : Fr ([(89, 11), (89, 14), (89, 15), (89, 16), (89, 17), (89, 18), (89, 19)], []) V W2 := F2
    refine ⟨0, V, W2, ?_, ?_, h, f, z, rm, h1.clr (by rw [F2.gi 1 1 rfl]; exact t1) g2 (F2.ga 2 rfl) (F2.ga 96 rfl), hI2.sm (Sm.of F rfl), h3.sm (Sm.of F rfl), h4.sm (Sm.of F rfl) (by omega), h5.sm (Sm.of F rfl), h6.sm (Sm.of F rfl) (by omega), h7.sm (Sm.of F rfl) (by omega), h8.sm (Sm.of F rfl), h9.sm (Sm.of F rfl), h10.fr2 (w1 := ([], [])) Fr.rf F rfl rfl⟩
    · rw [d_X_house, t1, if_neg (fun hn => hn rfl)]
    · rw [e2, if_neg (fun hn => hn rfl)]
  · have hn0 : ¬ on n = 0 := by rw [on_z (by omega)]; exact n0
    have xl := X_lines n80 t1 a2.1 m6
    cases hR : hV n (hP (ga V 2) (min n 76) (hm h) 77 0 0) with
    | inr p =>
      rw [hR] at xl
      have hp := hV_inr hR
      have F1 : Fr ([(1, 1)], []) V (si V 1 1 0) := Fr.si Fr.rf rfl
      obtain ⟨W2, e2, m2, g2, F2⟩ := MB (si V 1 1 0) (by rw [F1.gi 89 11 rfl]; exact t2)
      have F02 : Fr ((1, 1) :: wHs.1, wHs.2) V W2 := Fr.tr (Fr.tr Fr.rf F1 rfl) F2 rfl
      obtain ⟨V3, ok, F3⟩ := M_lines (T := ga V 2) (m := hm h) n80 77 0 0 ai_N W2 m2 (tx.fr F02 rfl) (by rw [F02.gi 89 1 rfl]; exact a3.1) (by omega) (by omega) (by omega) (by have : (20000 : Nat) = ai_N := rfl; omega)
      rw [hR] at ok
      have F12 : Fr wHs (si V 1 1 0) V3 := Fr.tr (Fr.tr Fr.rf F2 rfl) F3 rfl
      have F : Fr ((1, 1) :: wHs.1, wHs.2) V V3 := Fr.tr (Fr.tr Fr.rf F1 rfl) F12 rfl
      refine ⟨-1 - on p, si V 1 1 0, V3, ?_, ?_, h, f, z, rm, h1.clr ?_ (by rw [F3.gi 89 11 rfl]; exact g2) (F.ga 2 rfl) (F.ga 96 rfl), hI2.sm (Sm.of F rfl), h3.sm (Sm.of F rfl), h4.sm (Sm.of F rfl) (by omega), h5.sm (Sm.of F rfl), h6.sm (Sm.of F rfl) (by omega), h7.sm (Sm.of F rfl) (by omega), h8.sm (Sm.of F rfl), h9.sm (Sm.of F rfl), h10.fr2 F1 F12 rfl rfl⟩
      · rw [d_X_house, t1, if_pos hn0, xl, bd_some, if_pos (show hVal 0 (.inr p) ≤ 0 from neg_p2 (by omega))]; rfl
      · rw [e2, if_pos hn0]; exact ok
      · rw [F12.gi 1 1 rfl, gi_si, if_pos ⟨rfl, rfl⟩]
    | inl l =>
      rw [hR] at xl
      obtain ⟨n76, hP0⟩ := hV_inl hR
      obtain ⟨l6, l1, lok⟩ := hP_ok 77 0 0 hP0
      rw [Nat.add_zero] at l6
      let A : Ha := (hst h, hpc h, hwt h, hwn h, hwd h)
      have hO : AO (hm h) A := a1.2.2
      have hZ : AZ (hm h) A := a5
      have aok := adL_ok l (hm h) A hO hZ lok
      obtain ⟨V1, e1, g1, c1, o1, F1⟩ := X_take (A := A) n80 t1 a2.1 ⟨a2.2.2.2.1, a2.2.2.2.2.1, a2.2.2.2.2.2.1, a2.2.2.2.2.2.2.1, a2.2.2.2.2.2.2.2⟩ hO hZ hP0
      have FX : Fr ((1, 1) :: (24, 1) :: wHo.1, wHo.2) V (si (si V1 24 1 0) 1 1 0) := Fr.si (Fr.si (Fr.tr Fr.rf F1 rfl) rfl) rfl
      obtain ⟨W2, e2, m2, g2, F2⟩ := MB (si (si V1 24 1 0) 1 1 0) (by rw [FX.gi 89 11 rfl]; exact t2)
      have F02 : Fr ((1, 1) :: (24, 1) :: wHo.1 ++ wHs.1, wHo.2 ++ wHs.2) V W2 := Fr.tr (Fr.tr Fr.rf FX rfl) F2 rfl
      obtain ⟨V3, ok, F3⟩ := M_lines (T := ga V 2) (m := hm h) n80 77 0 0 ai_N W2 m2 (tx.fr F02 rfl) (by rw [F02.gi 89 1 rfl]; exact a3.1) (by omega) (by omega) (by omega) (by have : (20000 : Nat) = ai_N := rfl; omega)
      rw [hR] at ok
      obtain ⟨k1, k2, -⟩ := ok
      have F03 : Fr ((1, 1) :: (24, 1) :: wHo.1 ++ wHs.1, wHo.2 ++ wHs.2) V V3 := Fr.tr F02 F3 rfl
      obtain ⟨s1, s2, s3, s4, s5, s6, s7, s8⟩ := h4
      obtain ⟨V4, e4, r1, r2, r3, r4, r5, F4⟩ := M_take (T := ga V 2) (z := z) l 0 (hm h) ai_N (0 + l.length) V3 A rfl k2 (fun p hp => (lok p hp).2.2.2.2.2.1) ⟨by rw [F03.ga 91 rfl]; exact a3.2.2.2.1, by rw [F03.ga 92 rfl]; exact a3.2.2.2.2.1, by rw [F03.ga 93 rfl]; exact a3.2.2.2.2.2.1, by rw [F03.ga 94 rfl]; exact a3.2.2.2.2.2.2.1, by rw [F03.ga 95 rfl]; exact a3.2.2.2.2.2.2.2⟩ (by rw [F03.gi 89 1 rfl]; exact a3.1) (s3.fr F03 rfl) (fun k hk hmk => (s1.2.2 k hk).2 hmk) (by omega) (by omega) (N_gt (by omega))
      have FM : Fr (wHs.1 ++ wHm.1, wHs.2 ++ wHm.2) (si (si V1 24 1 0) 1 1 0) V4 := Fr.tr (Fr.tr (Fr.tr Fr.rf F2 rfl) F3 rfl) F4 rfl
      have F : Fr ((1, 1) :: (24, 1) :: wHo.1 ++ (wHs.1 ++ wHm.1), wHo.2 ++ (wHs.2 ++ wHm.2)) V V4 := Fr.tr (Fr.tr Fr.rf FX rfl) FM rfl
      have F14 : Fr ((1, 1) :: (24, 1) :: (wHs.1 ++ wHm.1), wHs.2 ++ wHm.2) V1 V4 := Fr.tr (Fr.si (Fr.si Fr.rf rfl) rfl) FM rfl
      refine ⟨on l.length, si (si V1 24 1 0) 1 1 0, V4, ?_, ?_, (hm h + l.length, hdu h, hbr h, (adL (ga V 2) (hm h) l A).1, (adL (ga V 2) (hm h) l A).2.1, (adL (ga V 2) (hm h) l A).2.2.1, (adL (ga V 2) (hm h) l A).2.2.2.1, (adL (ga V 2) (hm h) l A).2.2.2.2), f, z, rm, h1.clr ?_ ?_ (F.ga 2 rfl) (F.ga 96 rfl), ?_, h3.sm (Sm.of F rfl), ?_, h5.sm (Sm.of F rfl), ?_, ?_, h8.sm (Sm.of F rfl), h9.sm (Sm.of F rfl), h10.fr2 FX FM rfl rfl⟩
      · rw [d_X_house, t1, if_pos hn0, xl, bd_some, if_neg (show ¬ hVal 0 (.inl l) ≤ 0 by show ¬ on (0 + l.length) ≤ 0; exact on_pos (by omega) (by omega)), e1, bd_some]
        show some (on (0 + l.length), _) = _
        rw [Nat.zero_add]
      · rw [e2, if_pos hn0, k1]
        show d_M_house_126 ai_N (on (0 + l.length)) (on 0) V3 = _
        rw [e4, Nat.zero_add]
      · rw [FM.gi 1 1 rfl, gi_si, if_pos ⟨rfl, rfl⟩]
      · rw [F4.gi 89 11 rfl, F3.gi 89 11 rfl]; exact g2
      · refine ⟨⟨l6, a1.2.1, aok.1⟩, ⟨?_, ?_, ?_, ?_, ?_, ?_, ?_, ?_⟩, ⟨r1, ?_, ?_, r2.1, r2.2.1, r2.2.2.1, r2.2.2.2.1, r2.2.2.2.2⟩, o1.fr F14 rfl, aok.2, b, b64, hb⟩
        · rw [F14.gi 3 0 rfl]; exact g1
        · rw [F.gi 3 1 rfl]; exact a2.2.1
        · rw [F.gi 3 2 rfl]; exact a2.2.2.1
        · rw [F14.ga 4 rfl]; exact c1.1
        · rw [F14.ga 5 rfl]; exact c1.2.1
        · rw [F14.ga 6 rfl]; exact c1.2.2.1
        · rw [F14.ga 7 rfl]; exact c1.2.2.2.1
        · rw [F14.ga 8 rfl]; exact c1.2.2.2.2
        · rw [F.gi 89 9 rfl]; exact a3.2.1
        · rw [F.gi 89 7 rfl]; exact a3.2.2.1
      · exact ⟨s1.grow (by omega) (by show hm h ≤ hm h + l.length; omega), s2.fr F rfl rfl rfl rfl, r3, by rw [F.gi 16 2 rfl]; exact s4, by rw [F.gi 89 8 rfl]; exact s5, s6, s7, s8⟩
      · obtain ⟨p, xx, p1, p2, p3, p4, p5, p6, p7⟩ := h6
        refine ⟨0, xx, by omega, p2, ?_, by rw [F.gi 24 2 rfl]; exact p4, r4, ?_, fun e he => by omega⟩
        · rw [FM.gi 24 1 rfl, gi_si, if_neg (by decide), gi_si, if_pos ⟨rfl, rfl⟩]; rfl
        · intro j hj
          have t := (Sm.of (c := ((List.range 12).map (fun j => (26 + 3 * j, 2)), [])) F rfl).i (26 + 3 * j) 2
          rw [t (IP2_f j hj)]; exact p6 j hj
      · obtain ⟨c, q1, q2, q3⟩ := h7
        refine ⟨c + 1, by show c + 1 ≤ hm h + l.length; omega, ?_, fun i hi => ⟨?_, ?_⟩⟩
        · rw [r5, F03.gi 89 58 rfl, q2, on_s]
        · rcases (show i = 0 ∨ i = 1 by omega) with e | e <;> subst e
          · rw [F.gi 83 2 rfl]; exact (q3 0 hi).1
          · rw [F.gi 86 2 rfl]; exact (q3 1 hi).1
        · rw [F.ga 63 rfl, F.ga 116 rfl, F.ga 117 rfl]
          rcases (q3 i hi).2 with q | ⟨u1, k, d, u2, u3, ⟨u4, u5, -⟩ | u4⟩
          · exact Or.inl q
          · exact Or.inr ⟨u1, k, d, u2, u3, Or.inr ⟨by show k < hm h + l.length; omega, by omega⟩⟩
          · exact Or.inr ⟨u1, k, d, u2, u3, Or.inr ⟨by show k < hm h + l.length; omega, by omega⟩⟩
