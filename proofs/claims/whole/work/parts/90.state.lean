/-! ===== set, brake, sheet ===== -/
theorem st_set {N : Nat} {V : ai_V} (hI : Inv N V) (hN : N < 512) (x v : Int32) : Step N V (d_X_set x v) (d_M_set x v) := by
  have hI0 := hI
  obtain ⟨h, f, z, rm, h1, h2, h3, ⟨s1, s2, s3, s4, s5, s6, s7, s8⟩, h5, h6, h7, h8, h9, h10⟩ := hI
  by_cases e0 : x = 0
  · subst e0
    by_cases hv : 1 ≤ v ∧ v ≤ 999
    · have lvl : gi V 16 1 = z.2.1 := s2.2.1
      have lvm : ga V 90 12 = z.2.1 := s3.2.1
      have hv1 : 1 ≤ v.toInt ∧ v.toInt ≤ 999 := ⟨by have := ti_le.mp hv.1; exact this, by have := ti_le.mp hv.2; exact this⟩
      have F : Fr ([(16, 1), (16, 2), (89, 14), (89, 8)], [90]) V (sa (si (si (si (si V 16 2 v) 16 1 (ai_min z.2.1 v)) 89 14 0) 89 8 v) 90 12 (ai_min z.2.1 v)) := Fr.sa (Fr.si (Fr.si (Fr.si (Fr.si Fr.rf rfl) rfl) rfl) rfl) rfl
      refine ⟨rm, si (si V 16 2 v) 16 1 (ai_min z.2.1 v), sa (si (si (si (si V 16 2 v) 16 1 (ai_min z.2.1 v)) 89 14 0) 89 8 v) 90 12 (ai_min z.2.1 v), ?_, ?_, ?_⟩
      · rw [d_X_set, if_pos rfl, d_X_changeRoom, if_neg (nlt.mpr hv.1), if_pos hv.2, bd_some, gi_si, if_neg (by decide), lvl, s4]
      · have c1 : gi (si (si (si V 16 2 v) 16 1 (ai_min z.2.1 v)) 89 14 0) 89 8 = rm := by simp only [gi_si]; simp [s5]
        have c2 : ga (si (si (si (si V 16 2 v) 16 1 (ai_min z.2.1 v)) 89 14 0) 89 8 v) 90 12 = z.2.1 := lvm
        rw [d_M_set, if_neg (fun hn => hn rfl), in_eq, bd_some, if_neg (by rw [tf_pos hv]; decide), c1, show ((12 : Int32)).toNatClampNeg = 12 from rfl, c2, gi_si, if_pos ⟨rfl, rfl⟩]
      · refine ⟨h, f, (z.1, ai_min z.2.1 v, z.2.2.1, z.2.2.2), v, h1.sm (Sm.of F rfl), h2.sm (Sm.of F rfl), h3.sm (Sm.of F rfl), ?_, h5.sm (Sm.of F rfl), h6.sm (Sm.of F rfl) (by omega), h7.sm (Sm.of F rfl) (by omega), h8.sm (Sm.of F rfl), h9.sm (Sm.of F rfl), h10.sm (Sm.of F rfl)⟩
        have hmn : (ai_min z.2.1 v).toInt = min z.2.1.toInt v.toInt := ai_min_ti _ _
        obtain ⟨o1, o2, o3⟩ := s1
        refine ⟨⟨⟨o1.1, by have := o1.2; show z.1.toInt ≤ _; omega⟩, ⟨by rw [hmn]; omega, by rw [hmn]; omega⟩, o3⟩, ⟨?_, ?_, ?_⟩, ⟨?_, ?_, ?_⟩, ?_, ?_, hv1.1, hv1.2, by rw [hmn]; omega⟩
        · rw [gi_sa]; simp only [gi_si]; simp; exact s2.1
        · rw [gi_sa]; simp only [gi_si]; simp
        · intro k hk
          rw [F.ga 17 rfl, F.ga 18 rfl]; exact s2.2.2 k hk
        · rw [Nat.zero_add, ga_sa, if_neg (by omega)]; exact s3.1
        · rw [Nat.zero_add, ga_sa, if_pos ⟨rfl, rfl⟩]
        · intro k hk
          rw [Nat.zero_add, Nat.zero_add, ga_sa, ga_sa, if_neg (by omega), if_neg (by omega)]
          have := s3.2.2 k hk
          rw [Nat.zero_add, Nat.zero_add] at this; exact this
        · rw [gi_sa]; simp only [gi_si]; simp
        · rw [gi_sa]; simp only [gi_si]; simp
    · refine ⟨-1, V, si V 89 14 0, ?_, ?_, hI0.no 0⟩
      · rw [d_X_set, if_pos rfl, d_X_changeRoom]
        by_cases e : v < 1
        · rw [if_pos e]; rfl
        · rw [if_neg e, if_neg (fun e2 => hv ⟨nlt.mp e, e2⟩)]; rfl
      · rw [d_M_set, if_neg (fun hn => hn rfl), in_eq, bd_some, if_pos (tf_neg hv), d_M_set_53, if_pos (by decide), d_M_set_80, if_pos (by decide)]
  · by_cases e1 : x = 1
    · subst e1
      by_cases hv : 0 ≤ v ∧ v ≤ 9
      · have hv1 : 0 ≤ v.toInt ∧ v.toInt ≤ 9 := ⟨by have := ti_le.mp hv.1; exact this, by have := ti_le.mp hv.2; exact this⟩
        have F : Fr ([(3, 1), (89, 14), (89, 9)], []) V (si (si (si V 3 1 v) 89 14 0) 89 9 v) := Fr.si (Fr.si (Fr.si Fr.rf rfl) rfl) rfl
        obtain ⟨i1, i2, i3, i4, i5⟩ := h2
        refine ⟨hdu h, si V 3 1 v, si (si (si V 3 1 v) 89 14 0) 89 9 v, ?_, ?_, ?_⟩
        · rw [d_X_set, if_neg (by decide), if_pos rfl, d_X_changeDue, if_neg (nlt.mpr hv.1), if_pos hv.2, bd_some, i2.2.1]
        · have c1 : gi (si (si V 3 1 v) 89 14 0) 89 9 = hdu h := by simp only [gi_si]; simp [i3.2.1]
          rw [d_M_set, if_pos (by decide), d_M_set_53, if_neg (fun hn => hn rfl), in_eq, bd_some, if_neg (by rw [tf_pos hv]; decide), c1]
        · refine ⟨(hm h, v, hbr h, hst h, hpc h, hwt h, hwn h, hwd h), f, z, rm, h1.sm (Sm.of F rfl), ?_, h3.sm (Sm.of F rfl), (show IS N V h z rm from ⟨s1, s2, s3, s4, s5, s6, s7, s8⟩).sm (Sm.of F rfl) (by omega), h5.sm (Sm.of F rfl), h6.sm (Sm.of F rfl) (by omega), h7.sm (Sm.of F rfl) (by omega), h8.sm (Sm.of F rfl), h9.sm (Sm.of F rfl), h10.sm (Sm.of F rfl)⟩
          refine ⟨⟨i1.1, hv1, i1.2.2⟩, ?_, ?_, ?_, i5⟩
          · refine ⟨?_, ?_, ?_, ?_, ?_, ?_, ?_, ?_⟩
            · simp only [gi_si]; simp; exact i2.1
            · simp only [gi_si]; simp; rfl
            · simp only [gi_si]; simp; exact i2.2.2.1
            · exact i2.2.2.2.1
            · exact i2.2.2.2.2.1
            · exact i2.2.2.2.2.2.1
            · exact i2.2.2.2.2.2.2.1
            · exact i2.2.2.2.2.2.2.2
          · refine ⟨?_, ?_, ?_, ?_, ?_, ?_, ?_, ?_⟩
            · simp only [gi_si]; simp; exact i3.1
            · simp only [gi_si]; simp; rfl
            · simp only [gi_si]; simp; exact i3.2.2.1
            · exact i3.2.2.2.1
            · exact i3.2.2.2.2.1
            · exact i3.2.2.2.2.2.1
            · exact i3.2.2.2.2.2.2.1
            · exact i3.2.2.2.2.2.2.2
          · exact i4
      · refine ⟨-1, V, si V 89 14 0, ?_, ?_, hI0.no 0⟩
        · rw [d_X_set, if_neg (by decide), if_pos rfl, d_X_changeDue]
          by_cases e : v < 0
          · rw [if_pos e]; rfl
          · rw [if_neg e, if_neg (fun e2 => hv ⟨nlt.mp e, e2⟩)]; rfl
        · rw [d_M_set, if_pos (by decide), d_M_set_53, if_neg (fun hn => hn rfl), in_eq, bd_some, if_pos (tf_neg hv), d_M_set_80, if_pos (by decide)]
    · by_cases e2 : x = 2
      · subst e2
        by_cases hv : 0 ≤ v ∧ v ≤ rm
        · have hv1 : 0 ≤ v.toInt ∧ v.toInt ≤ rm.toInt := ⟨by have := ti_le.mp hv.1; exact this, ti_le.mp hv.2⟩
          have F : Fr ([(16, 1), (89, 14)], [90]) V (sa (si (si V 16 1 v) 89 14 0) 90 12 v) := Fr.sa (Fr.si (Fr.si Fr.rf rfl) rfl) rfl
          have lvm : ga (si (si V 16 1 v) 89 14 0) 90 12 = z.2.1 := s3.2.1
          refine ⟨z.2.1, si V 16 1 v, sa (si (si V 16 1 v) 89 14 0) 90 12 v, ?_, ?_, ?_⟩
          · rw [d_X_set, if_neg (by decide), if_neg (by decide), if_pos rfl, d_X_changeLevel, if_neg (nlt.mpr hv.1), s4, if_pos hv.2, bd_some, s2.2.1]
          · have c1 : gi (si (si V 16 1 v) 89 14 0) 89 8 = rm := by simp only [gi_si]; simp [s5]
            rw [d_M_set, if_pos (by decide), d_M_set_53, if_pos (by decide), d_M_set_80, if_neg (fun hn => hn rfl), c1, in_eq, bd_some, if_neg (by rw [tf_pos hv]; decide), show ((12 : Int32)).toNatClampNeg = 12 from rfl, lvm]
          · refine ⟨h, f, (z.1, v, z.2.2.1, z.2.2.2), rm, h1.sm (Sm.of F rfl), h2.sm (Sm.of F rfl), h3.sm (Sm.of F rfl), ?_, h5.sm (Sm.of F rfl), h6.sm (Sm.of F rfl) (by omega), h7.sm (Sm.of F rfl) (by omega), h8.sm (Sm.of F rfl), h9.sm (Sm.of F rfl), h10.sm (Sm.of F rfl)⟩
            obtain ⟨o1, o2, o3⟩ := s1
            refine ⟨⟨⟨o1.1, by have := o1.2; show z.1.toInt ≤ _; omega⟩, ⟨hv1.1, by show v.toInt ≤ 999; omega⟩, o3⟩, ⟨?_, ?_, ?_⟩, ⟨?_, ?_, ?_⟩, ?_, ?_, s6, s7, hv1.2⟩
            · rw [gi_sa]; simp only [gi_si]; simp; exact s2.1
            · rw [gi_sa]; simp only [gi_si]; simp
            · intro k hk
              rw [F.ga 17 rfl, F.ga 18 rfl]; exact s2.2.2 k hk
            · rw [Nat.zero_add, ga_sa, if_neg (by omega)]; exact s3.1
            · rw [Nat.zero_add, ga_sa, if_pos ⟨rfl, rfl⟩]
            · intro k hk
              rw [Nat.zero_add, Nat.zero_add, ga_sa, ga_sa, if_neg (by omega), if_neg (by omega)]
              have := s3.2.2 k hk
              rw [Nat.zero_add, Nat.zero_add] at this; exact this
            · rw [gi_sa]; simp only [gi_si]; simp; exact s4
            · rw [gi_sa]; simp only [gi_si]; simp; exact s5
        · refine ⟨-1, V, si V 89 14 0, ?_, ?_, hI0.no 0⟩
          · rw [d_X_set, if_neg (by decide), if_neg (by decide), if_pos rfl, d_X_changeLevel, s4]
            by_cases e : v < 0
            · rw [if_pos e]; rfl
            · rw [if_neg e, if_neg (fun e2 => hv ⟨nlt.mp e, e2⟩)]; rfl
          · rw [d_M_set, if_pos (by decide), d_M_set_53, if_pos (by decide), d_M_set_80, if_neg (fun hn => hn rfl), m14 _ _ 89 8 (by decide), s5, in_eq, bd_some, if_pos (tf_neg hv)]
      · refine ⟨-1, V, si V 89 14 0, ?_, ?_, hI0.no 0⟩
        · rw [d_X_set, if_neg e0, if_neg e1, if_neg e2]
        · rw [d_M_set, if_pos e0, d_M_set_53, if_pos e1, d_M_set_80, if_pos e2]
theorem brk : ∀ b, b < 64 → ∀ i, i < 6 → ∀ v, v < 2 → ∃ c, c < 64 ∧ (on b ^^^ ((((on b >>> (on i &&& 31)) &&& (1 : Int32)) ^^^ on v) <<< (on i &&& 31))) = on c ∧ ((on b &&& (((1 : Int32) <<< (on i &&& 31)) ^^^ (-1 : Int32))) ||| (on v <<< (on i &&& 31))) = on c := by decide +kernel
theorem st_brake {N : Nat} {V : ai_V} (hI : Inv N V) (hN : N < 512) (x v : Int32) : Step N V (d_X_brake x v) (d_M_brake x v) := by
  have hI0 := hI
  obtain ⟨h, f, z, rm, h1, ⟨i1, i2, i3, i4, i5, b, b64, hb⟩, h3, h4, h5, h6, h7, h8, h9, h10⟩ := hI
  have hm6 := i1.1
  have hM1 : MH (si V 89 14 0) h := i3.fr (w := ([(89, 14)], [])) (Fr.si Fr.rf rfl) rfl
  by_cases hx : (0 ≤ x ∧ x < on (hm h)) ∧ (0 ≤ v ∧ v ≤ 1)
  · obtain ⟨hx1, hv1⟩ := hx
    obtain ⟨i, hi, rfl⟩ := has_on i1 hx1
    obtain ⟨k, rfl, -, k1⟩ := rng v 0 1 (by omega) (by omega) hv1
    obtain ⟨c, c64, c1, c2⟩ := brk b b64 i (by omega) k (by omega)
    have F : Fr ([(3, 2), (89, 14), (89, 7)], []) V (si (si (si V 3 2 (on c)) 89 14 0) 89 7 (on c)) := Fr.si (Fr.si (Fr.si Fr.rf rfl) rfl) rfl
    refine ⟨(on b >>> (on i &&& 31)) &&& 1, si V 3 2 (on c), si (si (si V 3 2 (on c)) 89 14 0) 89 7 (on c), ?_, ?_, ?_⟩
    · rw [d_X_brake, has_eq i2, bd_some, if_neg (by rw [tf_pos hx1]; decide), if_neg (nlt.mpr hv1.1), if_pos hv1.2, i2.2.2.1, hb, c1]
    · have hM2 : MH (si (si V 3 2 (on c)) 89 14 0) h := i3.fr (w := ([(3, 2), (89, 14)], [])) (Fr.si (Fr.si Fr.rf rfl) rfl) rfl
      rw [d_M_brake, isOne_eq i1 hM2, bd_some, if_neg (by rw [tf_pos hx1]; decide), in_eq, bd_some, if_pos (by rw [tf_pos hv1]; decide), hM2.2.2.1, hb, c2]
    · refine ⟨(hm h, hdu h, on c, hst h, hpc h, hwt h, hwn h, hwd h), f, z, rm, h1.sm (Sm.of F rfl), ?_, h3.sm (Sm.of F rfl), h4.sm (Sm.of F rfl) (by omega), h5.sm (Sm.of F rfl), h6.sm (Sm.of F rfl) (by omega), h7.sm (Sm.of F rfl) (by omega), h8.sm (Sm.of F rfl), h9.sm (Sm.of F rfl), h10.sm (Sm.of F rfl)⟩
      refine ⟨⟨i1.1, i1.2.1, i1.2.2⟩, ?_, ?_, i4, i5, c, c64, rfl⟩
      · refine ⟨?_, ?_, ?_, ?_, ?_, ?_, ?_, ?_⟩
        · simp only [gi_si]; simp; exact i2.1
        · simp only [gi_si]; simp; exact i2.2.1
        · simp only [gi_si]; simp; rfl
        · exact i2.2.2.2.1
        · exact i2.2.2.2.2.1
        · exact i2.2.2.2.2.2.1
        · exact i2.2.2.2.2.2.2.1
        · exact i2.2.2.2.2.2.2.2
      · refine ⟨?_, ?_, ?_, ?_, ?_, ?_, ?_, ?_⟩
        · simp only [gi_si]; simp; exact i3.1
        · simp only [gi_si]; simp; exact i3.2.1
        · simp only [gi_si]; simp; rfl
        · exact i3.2.2.2.1
        · exact i3.2.2.2.2.1
        · exact i3.2.2.2.2.2.1
        · exact i3.2.2.2.2.2.2.1
        · exact i3.2.2.2.2.2.2.2
  · refine ⟨-1, V, si V 89 14 0, ?_, ?_, hI0.no 0⟩
    · rw [d_X_brake, has_eq i2, bd_some]
      by_cases e : 0 ≤ x ∧ x < on (hm h)
      · rw [if_neg (by rw [tf_pos e]; decide)]
        by_cases e1 : v < 0
        · rw [if_pos e1]
        · rw [if_neg e1, if_neg (fun e2 => hx ⟨e, nlt.mp e1, e2⟩)]
      · rw [if_pos (tf_neg e)]
    · rw [d_M_brake, isOne_eq i1 hM1, bd_some]
      by_cases e : 0 ≤ x ∧ x < on (hm h)
      · rw [if_neg (by rw [tf_pos e]; decide), in_eq, bd_some, if_neg (fun hn => hn (tf_neg (fun hc => hx ⟨e, hc⟩)))]
      · rw [if_pos (tf_neg e)]
/-! sheet -/
def shC (kd v : Int32) : Int32 := if kd = 0 then v.toInt8.toInt32 else if kd = 1 then v.toInt16.toInt32 else v
def shN (kd n f st : Int32) (k : Nat) : Int32 := if kd = 3 ∨ n ≤ on k then 1 else ai_max 1 (ai_min 9 (shC kd (f + on k * st)))
theorem shN_rng (kd n f st : Int32) (k : Nat) : 1 ≤ (shN kd n f st k).toInt ∧ (shN kd n f st k).toInt ≤ 9 := by
  unfold shN
  by_cases e : kd = 3 ∨ n ≤ on k
  · rw [if_pos e]; decide
  · rw [if_neg e, ai_max_ti, ai_min_ti]
    have e1 : (1 : Int32).toInt = 1 := rfl
    have e9 : (9 : Int32).toInt = 9 := rfl
    omega
def shS (kd n f st : Int32) (m : Nat) : Int32 := fo (fun k a => a + shN kd n f st k) m 0 0
theorem shS_s (kd n f st : Int32) (m : Nat) : shS kd n f st (m + 1) = shS kd n f st m + shN kd n f st m := by unfold shS; rw [fo_s, Nat.zero_add]
theorem X_sheet {V : ai_V} {h : Hs} {kd n f st : Int32} (hO : HO h) (hC : CH V h) (hk : 0 ≤ kd ∧ kd ≤ 3) : ∃ V', d_X_sheet_29 kd n f st V = some (if kd = 3 then -3 else shS kd n f st (hm h), V') ∧ (∀ k, ga V' 5 k = if k < hm h then shN kd n f st k else hpc h k) ∧ Fr ([], [5]) V V' := by
  have h6 := hO.1
  have k3 : (3 ≤ kd) ↔ kd = 3 := by
    have := ti_le.mp hk.2
    rw [ti_le, ti_eq]
    have e3 : (3 : Int32).toInt = 3 := rfl
    omega
  rw [d_X_sheet_29]
  have := loop_n (fun q (a : Int32) y V => d_X_sheet_35 q kd n f st a y V) (fun c : Int32 × ai_V => some c) (fun i a V' => a = shS kd n f st i ∧ (∀ k, ga V' 5 k = if k < i then shN kd n f st k else hpc h k) ∧ Fr ([], [5]) V V') (fun c => c.1 = (if kd = 3 then -3 else shS kd n f st (hm h)) ∧ (∀ k, ga c.2 5 k = if k < hm h then shN kd n f st k else hpc h k) ∧ Fr ([], [5]) V c.2) (hm h) ?_ ?_ (hm h) 0 ai_N 0 V (by omega) (N_gt (by omega)) ⟨rfl, fun k => by rw [if_neg (by omega), hC.2.2.2.2.1], Fr.rf⟩
  · obtain ⟨⟨c1, c2⟩, e, q1, q⟩ := this
    simp only at q1
    subst q1
    exact ⟨c2, e, q⟩
  · rintro q a i V1 hi ⟨rfl, a2, hF⟩
    have hin : ai_in (on i) 6 := by rw [on_in (by omega)]; omega
    show ∃ (a' : Int32) (V' : ai_V), d_X_sheet_35 (q + 1) kd n f st (shS kd n f st i) (on i) V1 = _ ∧ _
    have fin : ∀ u, u = shN kd n f st i → ∃ (a' : Int32) (V' : ai_V), d_X_sheet_82 (d_X_sheet_35 q) kd n f st (shS kd n f st i) (on i) u (on i) V1 = d_X_sheet_35 q kd n f st a' (on (i + 1)) V' ∧ a' = shS kd n f st (i + 1) ∧ (∀ k, ga V' 5 k = if k < i + 1 then shN kd n f st k else hpc h k) ∧ Fr ([], [5]) V V' := by
      rintro u rfl
      rw [d_X_sheet_82, if_pos hin, if_pos hin, on_nn (by omega), ga_sa, if_pos ⟨rfl, rfl⟩, on_s, ← shS_s]
      refine ⟨_, _, rfl, rfl, fun k => ?_, Fr.sa hF rfl⟩
      rw [ga_sa]
      by_cases e : k = i
      · rw [if_pos ⟨rfl, e⟩, if_pos (by omega), e]
      · rw [if_neg (fun hc => e hc.2), a2 k]
        by_cases e2 : k < i
        · rw [if_pos e2, if_pos (by omega)]
        · rw [if_neg e2, if_neg (by omega)]
    rw [d_X_sheet_35, hF.gi 3 0 rfl, hC.1, if_neg (by rw [on_le (by omega) (by omega)]; omega)]
    by_cases e1 : kd = 3
    · rw [if_pos (k3.mpr e1), d_X_sheet_81]
      exact fin 1 (by rw [shN, if_pos (Or.inl e1)])
    · rw [if_neg (fun hc => e1 (k3.mp hc))]
      by_cases e2 : n ≤ on i
      · rw [if_pos e2, d_X_sheet_81]
        exact fin 1 (by rw [shN, if_pos (Or.inr e2)])
      · rw [if_neg e2]
        have hp : d_X_paceTold kd (f + on i * st) V1 = some (shN kd n f st i) := by
          rw [shN, if_neg (by rintro (q | q); exact e1 q; exact e2 q), shC, d_X_paceTold]
          by_cases q0 : kd = 0
          · rw [if_neg (fun hn => hn q0), if_pos q0]; rfl
          · rw [if_pos q0, if_neg q0]
            by_cases q1 : kd = 1
            · rw [if_neg (fun hn => hn q1), if_pos q1]; rfl
            · rw [if_pos q1, if_neg q1]; rfl
        rw [hp, bd_some]
        exact fin _ rfl
  · rintro q a V1 ⟨rfl, a2, hF⟩
    show ∃ c : Int32 × ai_V, d_X_sheet_35 (q + 1) kd n f st (shS kd n f st (hm h)) (on (hm h)) V1 = _ ∧ _
    rw [d_X_sheet_35, hF.gi 3 0 rfl, hC.1, if_pos (Int32.le_refl _)]
    by_cases e1 : kd = 3
    · rw [if_neg (fun hn => hn e1), if_pos e1]; exact ⟨_, rfl, rfl, a2, hF⟩
    · rw [if_pos e1, if_neg e1]; exact ⟨_, rfl, rfl, a2, hF⟩
theorem M_sheet {V : ai_V} {h : Hs} {kd n f st : Int32} (hO : HO h) (hM : MH V h) : ∃ V', d_M_sheet_34 kd n f st V = some (if kd = 3 then -3 else shS kd n f st (hm h), V') ∧ (∀ k, ga V' 92 k = if k < hm h then shN kd n f st k else hpc h k) ∧ Fr ([], [92]) V V' := by
  have h6 := hO.1
  rw [d_M_sheet_34]
  have := loop_n (fun q (a : Int32 × Int32) y V => d_M_sheet_43 q kd n st a.1 a.2 y V) (fun c : Int32 × ai_V => some c) (fun i a V' => a = (shS kd n f st i, f + on i * st) ∧ (∀ k, ga V' 92 k = if k < i then shN kd n f st k else hpc h k) ∧ Fr ([], [92]) V V') (fun c => c.1 = (if kd = 3 then -3 else shS kd n f st (hm h)) ∧ (∀ k, ga c.2 92 k = if k < hm h then shN kd n f st k else hpc h k) ∧ Fr ([], [92]) V c.2) (hm h) ?_ ?_ (hm h) 0 ai_N (0, f) V (by omega) (N_gt (by omega)) ⟨by rw [show on 0 = (0 : Int32) from rfl, Int32.zero_mul, Int32.add_zero]; rfl, fun k => by rw [if_neg (by omega), hM.2.2.2.2.1], Fr.rf⟩
  · obtain ⟨⟨c1, c2⟩, e, q1, q⟩ := this
    simp only at q1
    subst q1
    exact ⟨c2, e, q⟩
  · rintro q a i V1 hi ⟨rfl, a2, hF⟩
    have hin : ai_in (on i) 6 := by rw [on_in (by omega)]; omega
    show ∃ (a' : Int32 × Int32) (V' : ai_V), d_M_sheet_43 (q + 1) kd n st (shS kd n f st i) (f + on i * st) (on i) V1 = _ ∧ _
    have hst : f + on i * st + st = f + on (i + 1) * st := by rw [← on_s, Int32.add_mul, Int32.one_mul, Int32.add_assoc]
    have fin : ∀ u, u = shN kd n f st i → ∃ (a' : Int32 × Int32) (V' : ai_V), d_M_sheet_109 (d_M_sheet_43 q) kd n st (shS kd n f st i) (f + on i * st) (on i) u (on i) V1 = d_M_sheet_43 q kd n st a'.1 a'.2 (on (i + 1)) V' ∧ a' = (shS kd n f st (i + 1), f + on (i + 1) * st) ∧ (∀ k, ga V' 92 k = if k < i + 1 then shN kd n f st k else hpc h k) ∧ Fr ([], [92]) V V' := by
      rintro u rfl
      rw [d_M_sheet_109, if_pos hin, if_pos hin, on_nn (by omega), ga_sa, if_pos ⟨rfl, rfl⟩, on_s, ← shS_s, hst]
      refine ⟨(shS kd n f st (i + 1), f + on (i + 1) * st), _, rfl, rfl, fun k => ?_, Fr.sa hF rfl⟩
      rw [ga_sa]
      by_cases e : k = i
      · rw [if_pos ⟨rfl, e⟩, if_pos (by omega), e]
      · rw [if_neg (fun hc => e hc.2), a2 k]
        by_cases e2 : k < i
        · rw [if_pos e2, if_pos (by omega)]
        · rw [if_neg e2, if_neg (by omega)]
    have mid : ∃ (a' : Int32 × Int32) (V' : ai_V), d_M_sheet_75 (d_M_sheet_43 q) kd n st (shS kd n f st i) (f + on i * st) (on i) (shC kd (f + on i * st)) V1 = d_M_sheet_43 q kd n st a'.1 a'.2 (on (i + 1)) V' ∧ a' = (shS kd n f st (i + 1), f + on (i + 1) * st) ∧ (∀ k, ga V' 92 k = if k < i + 1 then shN kd n f st k else hpc h k) ∧ Fr ([], [92]) V V' := by
      rw [d_M_sheet_75]
      by_cases e1 : kd = 3
      · rw [if_pos e1, d_M_sheet_94]
        exact fin 1 (by rw [shN, if_pos (Or.inl e1)])
      · rw [if_neg e1]
        by_cases e2 : n ≤ on i
        · rw [if_neg (nlt.mpr e2), d_M_sheet_94]
          exact fin 1 (by rw [shN, if_pos (Or.inr e2)])
        · rw [if_pos (nle.mp e2)]
          exact fin _ (by rw [shN, if_neg (by rintro (q | q); exact e1 q; exact e2 q)])
    rw [d_M_sheet_43, hF.gi 89 1 rfl, hM.1, if_neg (by rw [on_le (by omega) (by omega)]; omega)]
    unfold shC at mid
    by_cases q0 : kd = 0
    · rw [if_pos q0] at mid
      rw [if_neg (fun hn => hn q0)]; exact mid
    · rw [if_neg q0] at mid
      rw [if_pos q0]
      by_cases q1 : kd = 1
      · rw [if_pos q1] at mid
        rw [if_neg (fun hn => hn q1)]; exact mid
      · rw [if_neg q1] at mid
        rw [if_pos q1]; exact mid
  · rintro q a V1 ⟨rfl, a2, hF⟩
    show ∃ c : Int32 × ai_V, d_M_sheet_43 (q + 1) kd n st (shS kd n f st (hm h)) (f + on (hm h) * st) (on (hm h)) V1 = _ ∧ _
    rw [d_M_sheet_43, hF.gi 89 1 rfl, hM.1, if_pos (Int32.le_refl _)]
    by_cases e1 : kd = 3
    · rw [if_neg (fun hn => hn e1), if_pos e1]; exact ⟨_, rfl, rfl, a2, hF⟩
    · rw [if_pos e1, if_neg e1]; exact ⟨_, rfl, rfl, a2, hF⟩
theorem st_sheet {N : Nat} {V : ai_V} (hI : Inv N V) (hN : N < 512) (kd n f0 st : Int32) : Step N V (d_X_sheet kd n f0 st) (d_M_sheet kd n f0 st) := by
  have hI0 := hI
  obtain ⟨h, f, z, rm, h1, ⟨i1, i2, i3, i4, i5⟩, h3, h4, h5, h6, h7, h8, h9, h10⟩ := hI
  have key : 0 ≤ kd ∧ kd ≤ 3 → ∃ v V1 V2, d_X_sheet_29 kd n f0 st V = some (v, V1) ∧ d_M_sheet_34 kd n f0 st (si V1 89 14 0) = some (v, V2) ∧ Inv (N + 1) V2 := by
    intro hk
    obtain ⟨V1, e1, a1, F1⟩ := X_sheet (n := n) (f := f0) (st := st) i1 i2 hk
    have hM1 : MH (si V1 89 14 0) h := i3.fr (w := ([(89, 14)], [5])) (Fr.si (Fr.tr Fr.rf F1 rfl) rfl) rfl
    obtain ⟨V2, e2, a2, F2⟩ := M_sheet (kd := kd) (n := n) (f := f0) (st := st) i1 hM1
    have F : Fr ([(89, 14)], [5, 92]) V V2 := Fr.tr (Fr.si (Fr.tr Fr.rf F1 rfl) rfl) F2 rfl
    refine ⟨_, V1, V2, e1, e2, (hm h, hdu h, hbr h, hst h, fun k => if k < hm h then shN kd n f0 st k else hpc h k, hwt h, hwn h, hwd h), f, z, rm, h1.sm (Sm.of F rfl), ?_, h3.sm (Sm.of F rfl), h4.sm (Sm.of F rfl) (by omega), h5.sm (Sm.of F rfl), h6.sm (Sm.of F rfl) (by omega), h7.sm (Sm.of F rfl) (by omega), h8.sm (Sm.of F rfl), h9.sm (Sm.of F rfl), h10.sm (Sm.of F rfl)⟩
    refine ⟨⟨i1.1, i1.2.1, fun k hk => ?_⟩, ?_, ?_, ?_, i5⟩
    · obtain ⟨g1, g2, g3⟩ := i1.2.2 k hk
      refine ⟨g1, ?_, g3⟩
      show 1 ≤ (if k < hm h then shN kd n f0 st k else hpc h k).toInt ∧ (if k < hm h then shN kd n f0 st k else hpc h k).toInt ≤ 9
      rw [if_pos (show k < hm h from hk)]; exact shN_rng _ _ _ _ _
    · refine ⟨by rw [F.gi 3 0 rfl]; exact i2.1, by rw [F.gi 3 1 rfl]; exact i2.2.1, by rw [F.gi 3 2 rfl]; exact i2.2.2.1, by rw [F.ga 4 rfl]; exact i2.2.2.2.1, ?_, by rw [F.ga 6 rfl]; exact i2.2.2.2.2.2.1, by rw [F.ga 7 rfl]; exact i2.2.2.2.2.2.2.1, by rw [F.ga 8 rfl]; exact i2.2.2.2.2.2.2.2⟩
      rw [F2.ga 5 rfl, ga_si]
      funext k
      exact a1 k
    · refine ⟨by rw [F.gi 89 1 rfl]; exact i3.1, by rw [F.gi 89 9 rfl]; exact i3.2.1, by rw [F.gi 89 7 rfl]; exact i3.2.2.1, by rw [F.ga 91 rfl]; exact i3.2.2.2.1, ?_, by rw [F.ga 93 rfl]; exact i3.2.2.2.2.2.1, by rw [F.ga 94 rfl]; exact i3.2.2.2.2.2.2.1, by rw [F.ga 95 rfl]; exact i3.2.2.2.2.2.2.2⟩
      funext k
      exact a2 k
    · exact i4.fr F rfl
  by_cases hk : 0 ≤ kd ∧ kd ≤ 3
  · have xa : ∀ V, d_X_sheet kd n f0 st V = if n ≤ 6 then (if (3 : Int32) ≤ kd then d_X_sheet_29 kd n f0 st V else (if 0 ≤ n then d_X_sheet_29 kd n f0 st V else some (-2, V))) else some (-1, V) := fun V => by rw [d_X_sheet, if_neg (nlt.mpr hk.1), if_neg (nlt.mpr hk.2)]
    have ma : ∀ V, d_M_sheet kd n f0 st V = if n ≤ 6 then (if (3 : Int32) ≤ kd then d_M_sheet_34 kd n f0 st (si V 89 14 0) else (if 0 ≤ n then d_M_sheet_34 kd n f0 st (si V 89 14 0) else some (-2, si V 89 14 0))) else some (-1, si V 89 14 0) := fun V => by rw [d_M_sheet, in_eq, bd_some, if_neg (by rw [tf_pos hk]; decide)]
    unfold Step
    by_cases e1 : n ≤ 6
    · by_cases e2 : (3 : Int32) ≤ kd
      · obtain ⟨v, V1, V2, q1, q2, q3⟩ := key hk
        exact ⟨v, V1, V2, by rw [xa, if_pos e1, if_pos e2]; exact q1, by rw [ma, if_pos e1, if_pos e2]; exact q2, q3⟩
      · by_cases e3 : 0 ≤ n
        · obtain ⟨v, V1, V2, q1, q2, q3⟩ := key hk
          exact ⟨v, V1, V2, by rw [xa, if_pos e1, if_neg e2, if_pos e3]; exact q1, by rw [ma, if_pos e1, if_neg e2, if_pos e3]; exact q2, q3⟩
        · exact ⟨-2, V, si V 89 14 0, by rw [xa, if_pos e1, if_neg e2, if_neg e3], by rw [ma, if_pos e1, if_neg e2, if_neg e3], hI0.no 0⟩
    · exact ⟨-1, V, si V 89 14 0, by rw [xa, if_neg e1], by rw [ma, if_neg e1], hI0.no 0⟩
  · refine ⟨-1, V, si V 89 14 0, ?_, ?_, hI0.no 0⟩
    · rw [d_X_sheet]
      by_cases e : kd < 0
      · rw [if_pos e]
      · rw [if_neg e, if_pos (nle.mp (fun e2 => hk ⟨nlt.mp e, e2⟩))]
    · rw [d_M_sheet, in_eq, bd_some, if_pos (tf_neg hk)]
