/-! ===== a day is trodden ===== -/
theorem tcan {h : Hs} (hO : HO h) : ∀ t : List Nat, tW t → (canT h (tX t) (tY t) ↔ tB t < 2 ^ hm h) ∧ (canT h (tX t) (tY t) → pr h (tX t) (tY t) (tB t)) := by
  intro t ht
  have h6 := hO.1
  have pl : ∀ a, 2 ^ a < 2 ^ hm h → a < hm h := fun a ha => (Nat.pow_lt_pow_iff_right (by decide)).mp ha
  match t, ht with
  | [], _ =>
    have e : canT h (-1) (-1) := by unfold canT; rw [if_pos rfl]
    exact ⟨⟨fun _ => pw_pos _, fun _ => e⟩, fun _ => pr_no h⟩
  | [i], hi =>
    have hi6 : i < 6 := hi
    have e : canT h (on i) (-1) ↔ i < hm h := by
      unfold canT
      rw [if_neg (on_ne_m1 (by omega))]
      refine ⟨fun hc => ?_, fun hc => ⟨on_has hO hc, on_ne_m1 (by omega), Or.inl rfl⟩⟩
      have := hc.1.2
      rw [on_lt (by omega) (by omega)] at this
      exact this
    exact ⟨⟨fun hc => pw_lt2 (e.mp hc), fun hc => e.mpr (pl i hc)⟩, fun hc => pr_one (e.mp hc)⟩
  | i :: j :: r, hij =>
    obtain ⟨hi, hj, hne⟩ := hij
    have e : canT h (on i) (on j) ↔ i < hm h ∧ j < hm h := by
      unfold canT
      rw [if_neg (on_ne_m1 (by omega))]
      refine ⟨fun hc => ?_, fun hc => ⟨on_has hO hc.1, by rw [Ne, on_inj (by omega) (by omega)]; exact hne, Or.inr (on_has hO hc.2)⟩⟩
      have h1 := hc.1.2
      rw [on_lt (by omega) (by omega)] at h1
      rcases hc.2.2 with h2 | h2
      · exact absurd h2 (on_ne_m1 (by omega))
      · have h2 := h2.2
        rw [on_lt (by omega) (by omega)] at h2
        exact ⟨h1, h2⟩
    refine ⟨⟨fun hc => Nat.or_lt_two_pow (pw_lt2 (e.mp hc).1) (pw_lt2 (e.mp hc).2), fun hc => ?_⟩, fun hc => pr_two (e.mp hc).1 (e.mp hc).2 hne⟩
    have hc : 2 ^ i ||| 2 ^ j < 2 ^ hm h := hc
    exact e.mpr ⟨pl i (Nat.lt_of_le_of_lt Nat.left_le_or hc), pl j (Nat.lt_of_le_of_lt Nat.right_le_or hc)⟩
abbrev Ds : Type := Nat × Int32 × Int32 × Ss
def dR (h : Hs) (f : Rf) (rm : Int32) : List (List Nat) → Ds → Ds
  | [], a => a
  | t :: l, a => if tB t < 2 ^ hm h then dR h f rm l (a.1 + 1, a.2.1 + on (popc (qT h f (lo h) rm (tB t) a.2.2.2).2), a.2.2.1 + qovr h f rm (tB t) a.2.2.2, qz h f (lo h) rm (tB t) a.2.2.2) else a
def dRow (a : Ds) : List Int64 := [a.2.2.2.2.1.toInt64, a.2.1.toInt64, a.2.2.1.toInt64]
theorem dR_ok {h : Hs} {f : Rf} {rm : Int32} (hO : HO h) (hr : 1 ≤ rm.toInt ∧ rm.toInt ≤ 999) : ∀ (l : List (List Nat)) (a : Ds) (K : Nat), (∀ t ∈ l, tW t) → K + l.length < 10000000 → SK K (hm h) a.2.2.2 → a.2.2.2.2.1.toInt ≤ rm.toInt → (a.1 ≤ (dR h f rm l a).1 ∧ (dR h f rm l a).1 ≤ a.1 + l.length) ∧ SK (K + l.length) (hm h) (dR h f rm l a).2.2.2 ∧ (dR h f rm l a).2.2.2.2.1.toInt ≤ rm.toInt := by
  intro l
  induction l with
  | nil => intro a K _ _ h1 h2; exact ⟨⟨Nat.le_refl _, Nat.le_refl _⟩, h1, h2⟩
  | cons t l ih =>
    intro a K hw hK h1 h2
    rw [List.length_cons] at hK
    rw [dR]
    by_cases e : tB t < 2 ^ hm h
    · rw [if_pos e]
      have tc := tcan hO t (hw t (by simp))
      have sk := qz_SK (f := f) hO (by omega) h1 hr h2 (tc.2 (tc.1.mpr e))
      have := ih (a.1 + 1, a.2.1 + on (popc (qT h f (lo h) rm (tB t) a.2.2.2).2), a.2.2.1 + qovr h f rm (tB t) a.2.2.2, qz h f (lo h) rm (tB t) a.2.2.2) (K + 1) (fun u hu => hw u (by simp [hu])) (by omega) sk.1 sk.2
      refine ⟨⟨by have := this.1.1; simp only at this ⊢; omega, by have := this.1.2; simp only [List.length_cons] at this ⊢; omega⟩, ?_, this.2.2⟩
      have h3 := this.2.1
      rw [show K + 1 + l.length = K + (t :: l).length by rw [List.length_cons]; omega] at h3
      exact h3
    · rw [if_neg e]
      refine ⟨⟨Nat.le_refl _, by omega⟩, ⟨⟨h1.1.1, ?_⟩, h1.2⟩, h2⟩
      have := h1.1.2
      rw [List.length_cons]; omega
def wD16 : Fw := ([(15, 2), (15, 3), (15, 4), (15, 5), (16, 0), (16, 1), (22, 1)], [12, 13, 17, 18, 23])
theorem td_16 {V : ai_V} {n i j : Nat} {t : List Nat} (hn : n ≤ 80) (h1 : gi V 1 1 = on n) (hi : i < n) (hd : dT (ga V 2) n i = .inl (t, j)) (q c : Nat) (d o : Int32) :
    d_X_treadDay_10 (q + 1) (on c) d o (on i) V = (d_House_canTread (tX t) (tY t) V).bind fun q3 => (if ¬ q3 = 0 then (if ¬ on c = 0 then (d_X_treadDay_174 (d_X_treadDay_10 q) (on c) d o (on j) (tX t) (tY t) V) else ((d_Past_save V).bind fun q4 => d_X_treadDay_174 (d_X_treadDay_10 q) (on c) d o (on j) (tX t) (tY t) q4)) else (d_X_treadDay_214 (on c) d o V)) := by
  rw [d_X_treadDay_10, h1, if_neg (by rw [on_le (by omega) (by omega)]; omega), at_y hn h1 hi, bd_some]
  have o1 : on i + (1 : Int32) = on (i + 1) := on_s i
  have o2 : on i + (2 : Int32) = on (i + 2) := by rw [show (2 : Int32) = on 2 from rfl, on_add]
  have o4 : on i + (4 : Int32) = on (i + 4) := by rw [show (4 : Int32) = on 4 from rfl, on_add]
  rcases dT_cases (ga V 2) hi with ⟨c1, d'⟩ | ⟨c1, c2, d'⟩ | ⟨c1, c2, c3, d'⟩ | ⟨c1, c2, c3, c4, d'⟩ | ⟨c1, c2, c3, c4, d'⟩ | ⟨c1, d'⟩ | ⟨c1, c2, c3, d'⟩ <;> rw [hd] at d'
  · obtain ⟨rfl, rfl⟩ := Prod.mk.inj (Sum.inl.inj d')
    rw [if_pos (by rw [c1]; decide), d_X_treadDay_41, if_pos rfl, at_y hn h1 hi, bd_some, if_neg (fun hn => hn c1), d_X_treadDay_95, if_pos rfl, d_X_treadDay_120, if_pos rfl, d_X_treadDay_134, o1]; rfl
  · cases d'
  · cases d'
  · cases d'
  · obtain ⟨rfl, rfl⟩ := Prod.mk.inj (Sum.inl.inj d')
    rw [if_neg (fun hn => hn c1), d_X_treadDay_41, if_neg (by decide), o1, at_y hn h1 c2.1, bd_some, (lt_on c2.2).1, d_X_treadDay_95, if_neg (by decide), o2, at_y hn h1 c3.1, bd_some, (lt_on c3.2.1).1, d_X_treadDay_120, if_neg (by decide), d_X_treadDay_134, o4]; rfl
  · obtain ⟨rfl, rfl⟩ := Prod.mk.inj (Sum.inl.inj d')
    have n1 : ¬ ga V 2 i = 46 := fun e => by rw [e] at c1; exact absurd c1.1 (by decide)
    have n2 : ¬ ga V 2 i = 91 := fun e => by rw [e] at c1; exact absurd c1.1 (by decide)
    rw [if_pos n2, d_X_treadDay_41, if_pos rfl, at_y hn h1 hi, bd_some, if_pos n1, bd_some, (lt_on c1).1, d_X_treadDay_95, if_pos rfl, d_X_treadDay_120, if_pos rfl, d_X_treadDay_134, o1]; rfl
  · cases d'
theorem te_16 {V : ai_V} {z : Ss} (hz : cS z V 16) (c : Nat) (d o : Int32) : ∃ V', d_X_treadDay_214 (on c) d o V = some (on c, V') ∧ cRow V' (dRow (c, d, o, z)) ∧ Fr ([(22, 1)], [23]) V V' := by
  obtain ⟨V1, e1, r1, F1⟩ := tell3 z.2.1.toInt64 d.toInt64 o.toInt64 V
  exact ⟨V1, by rw [d_X_treadDay_214, hz.2.1, e1]; rfl, r1, F1⟩
theorem run_16 {h : Hs} {f : Rf} {rm : Int32} {n : Nat} (hn : n ≤ 80) : ∀ (k i q c : Nat) (d o : Int32) (z : Ss) (nw : Nat) (V : ai_V) (l : List (List Nat)), dayP (ga V 2) n k i = .inl l → KC V h f → gi V 1 1 = on n → cS z V 16 → gi V 16 2 = rm → z.1 = on nw → nw + l.length < 2000000 → n - i < q → i ≤ n → 1 ≤ c → c + l.length < 1000 →
    ∃ V', d_X_treadDay_10 q (on c) d o (on i) V = some (on (dR h f rm l (c, d, o, z)).1, V') ∧ cS (dR h f rm l (c, d, o, z)).2.2.2 V' 16 ∧ cRow V' (dRow (dR h f rm l (c, d, o, z))) ∧ Fr wD16 V V' := by
  intro k
  induction k with
  | zero => intro i q c d o z nw V l hp; cases hp
  | succ k ih =>
    intro i q c d o z nw V l hp K h1 hz hr hnw hb hq hi hc1 hc
    obtain ⟨q, rfl⟩ : ∃ q', q = q' + 1 := ⟨q - 1, by omega⟩
    by_cases e : n ≤ i
    · rw [dayP_end _ _ e] at hp
      have hl := Sum.inl.inj hp
      subst hl
      obtain ⟨V1, e1, r1, F1⟩ := te_16 hz c d o
      refine ⟨V1, ?_, hz.fr F1 rfl rfl rfl rfl, r1, Fr.tr Fr.rf F1 rfl⟩
      rw [d_X_treadDay_10, h1, if_pos (by rw [on_le (by omega) (by omega)]; exact e)]; exact e1
    · cases hd : dT (ga V 2) n i with
      | inr p => rw [dayP_bad k (by omega) hd] at hp; cases hp
      | inl u =>
        obtain ⟨t, j⟩ := u
        rw [dayP_go k (by omega) hd] at hp
        have hnx := dT_next (by omega) hd
        cases hr2 : dayP (ga V 2) n k j with
        | inr p => rw [hr2] at hp; cases hp
        | inl l2 =>
          rw [hr2] at hp
          have hl := Sum.inl.inj hp
          subst hl
          rw [List.length_cons] at hb hc
          have tc := tcan K.1 t hnx.2.2
          rw [td_16 hn h1 (by omega) hd]
          rcases canTread_eq K.1 K.2.1 (tX t) (tY t) with ⟨ex, hcn⟩ | ⟨ex, hcn⟩
          · obtain ⟨V1, e1, z1, -, q3, -, q5⟩ := pass_16 (rm := rm) K.1 K.2.1 K.2.2.1 K.2.2.2 (tc.2 hcn) hz hr hnw (by omega)
            have F1 : Fr w_Wheel_pass V V1 := fr_Wheel_pass _ _ _ _ e1
            have T1 : ga V1 2 = ga V 2 := F1.ga 2 rfl
            have stp : d_X_treadDay_174 (d_X_treadDay_10 q) (on c) d o (on j) (tX t) (tY t) V = d_X_treadDay_10 q (on (c + 1)) (d + on (popc (qT h f (lo h) rm (tB t) z).2)) (o + qovr h f rm (tB t) z) (on j) V1 := by
              rw [d_X_treadDay_174, e1, bd_some, q5, q3, on_s]
            rw [← T1] at hr2
            obtain ⟨V2, e2, z2, r2, F2⟩ := ih j q (c + 1) (d + on (popc (qT h f (lo h) rm (tB t) z).2)) (o + qovr h f rm (tB t) z) _ (nw + 1) V1 l2 hr2 (K.fr F1 rfl) (by rw [F1.gi 1 1 rfl]; exact h1) z1 (by rw [F1.gi 16 2 rfl]; exact hr) (by show z.1 + 1 = _; rw [hnw, on_s]) (by omega) (by omega) (by omega) (by omega) (by omega)
            have hR : dR h f rm (t :: l2) (c, d, o, z) = dR h f rm l2 (c + 1, d + on (popc (qT h f (lo h) rm (tB t) z).2), o + qovr h f rm (tB t) z, qz h f (lo h) rm (tB t) z) := by rw [dR, if_pos (tc.1.mp hcn)]
            rw [hR, ex, bd_some, if_pos (show ¬ (1 : Int32) = 0 by decide)]
            rw [if_pos (by rw [on_z (by omega)]; omega), stp]
            exact ⟨V2, e2, z2, r2, Fr.tr (Fr.tr Fr.rf F1 rfl) F2 rfl⟩
          · have hR : dR h f rm (t :: l2) (c, d, o, z) = (c, d, o, z) := by rw [dR, if_neg (fun hb => hcn (tc.1.mpr hb))]
            obtain ⟨V1, e1, r1, F1⟩ := te_16 hz c d o
            rw [hR, ex, bd_some, if_neg (fun hn => hn rfl)]
            exact ⟨V1, e1, hz.fr F1 rfl rfl rfl rfl, r1, Fr.tr Fr.rf F1 rfl⟩
def wD19 : Fw := ([(15, 2), (15, 3), (15, 4), (15, 5), (19, 0), (19, 1), (22, 1)], [12, 13, 20, 21, 23])
theorem td_19 {V : ai_V} {n i j : Nat} {t : List Nat} (hn : n ≤ 80) (h1 : gi V 1 1 = on n) (hi : i < n) (hd : dT (ga V 2) n i = .inl (t, j)) (q c : Nat) (d o : Int32) :
    d_X_treadDay_0_19_10 (q + 1) (on c) d o (on i) V = (d_House_canTread (tX t) (tY t) V).bind fun q3 => (if ¬ q3 = 0 then (if ¬ on c = 0 then (d_X_treadDay_0_19_174 (d_X_treadDay_0_19_10 q) (on c) d o (on j) (tX t) (tY t) V) else (d_X_treadDay_0_19_174 (d_X_treadDay_0_19_10 q) (on c) d o (on j) (tX t) (tY t) V)) else (d_X_treadDay_0_19_214 (on c) d o V)) := by
  rw [d_X_treadDay_0_19_10, h1, if_neg (by rw [on_le (by omega) (by omega)]; omega), at_y hn h1 hi, bd_some]
  have o1 : on i + (1 : Int32) = on (i + 1) := on_s i
  have o2 : on i + (2 : Int32) = on (i + 2) := by rw [show (2 : Int32) = on 2 from rfl, on_add]
  have o4 : on i + (4 : Int32) = on (i + 4) := by rw [show (4 : Int32) = on 4 from rfl, on_add]
  rcases dT_cases (ga V 2) hi with ⟨c1, d'⟩ | ⟨c1, c2, d'⟩ | ⟨c1, c2, c3, d'⟩ | ⟨c1, c2, c3, c4, d'⟩ | ⟨c1, c2, c3, c4, d'⟩ | ⟨c1, d'⟩ | ⟨c1, c2, c3, d'⟩ <;> rw [hd] at d'
  · obtain ⟨rfl, rfl⟩ := Prod.mk.inj (Sum.inl.inj d')
    rw [if_pos (by rw [c1]; decide), d_X_treadDay_0_19_41, if_pos rfl, at_y hn h1 hi, bd_some, if_neg (fun hn => hn c1), d_X_treadDay_0_19_95, if_pos rfl, d_X_treadDay_0_19_120, if_pos rfl, d_X_treadDay_0_19_134, o1]; rfl
  · cases d'
  · cases d'
  · cases d'
  · obtain ⟨rfl, rfl⟩ := Prod.mk.inj (Sum.inl.inj d')
    rw [if_neg (fun hn => hn c1), d_X_treadDay_0_19_41, if_neg (by decide), o1, at_y hn h1 c2.1, bd_some, (lt_on c2.2).1, d_X_treadDay_0_19_95, if_neg (by decide), o2, at_y hn h1 c3.1, bd_some, (lt_on c3.2.1).1, d_X_treadDay_0_19_120, if_neg (by decide), d_X_treadDay_0_19_134, o4]; rfl
  · obtain ⟨rfl, rfl⟩ := Prod.mk.inj (Sum.inl.inj d')
    have n1 : ¬ ga V 2 i = 46 := fun e => by rw [e] at c1; exact absurd c1.1 (by decide)
    have n2 : ¬ ga V 2 i = 91 := fun e => by rw [e] at c1; exact absurd c1.1 (by decide)
    rw [if_pos n2, d_X_treadDay_0_19_41, if_pos rfl, at_y hn h1 hi, bd_some, if_pos n1, bd_some, (lt_on c1).1, d_X_treadDay_0_19_95, if_pos rfl, d_X_treadDay_0_19_120, if_pos rfl, d_X_treadDay_0_19_134, o1]; rfl
  · cases d'
theorem te_19 {V : ai_V} {z : Ss} (hz : cS z V 19) (c : Nat) (d o : Int32) : ∃ V', d_X_treadDay_0_19_214 (on c) d o V = some (on c, V') ∧ cRow V' (dRow (c, d, o, z)) ∧ Fr ([(22, 1)], [23]) V V' := by
  obtain ⟨V1, e1, r1, F1⟩ := tell3 z.2.1.toInt64 d.toInt64 o.toInt64 V
  exact ⟨V1, by rw [d_X_treadDay_0_19_214, hz.2.1, e1]; rfl, r1, F1⟩
theorem run_19 {h : Hs} {f : Rf} {rm : Int32} {n : Nat} (hn : n ≤ 80) : ∀ (k i q c : Nat) (d o : Int32) (z : Ss) (nw : Nat) (V : ai_V) (l : List (List Nat)), dayP (ga V 2) n k i = .inl l → KC V h f → gi V 1 1 = on n → cS z V 19 → gi V 19 2 = rm → z.1 = on nw → nw + l.length < 2000000 → n - i < q → i ≤ n → c + l.length < 1000 →
    ∃ V', d_X_treadDay_0_19_10 q (on c) d o (on i) V = some (on (dR h f rm l (c, d, o, z)).1, V') ∧ cS (dR h f rm l (c, d, o, z)).2.2.2 V' 19 ∧ cRow V' (dRow (dR h f rm l (c, d, o, z))) ∧ Fr wD19 V V' := by
  intro k
  induction k with
  | zero => intro i q c d o z nw V l hp; cases hp
  | succ k ih =>
    intro i q c d o z nw V l hp K h1 hz hr hnw hb hq hi hc
    obtain ⟨q, rfl⟩ : ∃ q', q = q' + 1 := ⟨q - 1, by omega⟩
    by_cases e : n ≤ i
    · rw [dayP_end _ _ e] at hp
      have hl := Sum.inl.inj hp
      subst hl
      obtain ⟨V1, e1, r1, F1⟩ := te_19 hz c d o
      refine ⟨V1, ?_, hz.fr F1 rfl rfl rfl rfl, r1, Fr.tr Fr.rf F1 rfl⟩
      rw [d_X_treadDay_0_19_10, h1, if_pos (by rw [on_le (by omega) (by omega)]; exact e)]; exact e1
    · cases hd : dT (ga V 2) n i with
      | inr p => rw [dayP_bad k (by omega) hd] at hp; cases hp
      | inl u =>
        obtain ⟨t, j⟩ := u
        rw [dayP_go k (by omega) hd] at hp
        have hnx := dT_next (by omega) hd
        cases hr2 : dayP (ga V 2) n k j with
        | inr p => rw [hr2] at hp; cases hp
        | inl l2 =>
          rw [hr2] at hp
          have hl := Sum.inl.inj hp
          subst hl
          rw [List.length_cons] at hb hc
          have tc := tcan K.1 t hnx.2.2
          rw [td_19 hn h1 (by omega) hd]
          rcases canTread_eq K.1 K.2.1 (tX t) (tY t) with ⟨ex, hcn⟩ | ⟨ex, hcn⟩
          · obtain ⟨V1, e1, z1, -, q3, -, q5⟩ := pass_19 (rm := rm) K.1 K.2.1 K.2.2.1 K.2.2.2 (tc.2 hcn) hz hr hnw (by omega)
            have F1 : Fr w_Wheel_pass_15_19 V V1 := fr_Wheel_pass_15_19 _ _ _ _ e1
            have T1 : ga V1 2 = ga V 2 := F1.ga 2 rfl
            have stp : d_X_treadDay_0_19_174 (d_X_treadDay_0_19_10 q) (on c) d o (on j) (tX t) (tY t) V = d_X_treadDay_0_19_10 q (on (c + 1)) (d + on (popc (qT h f (lo h) rm (tB t) z).2)) (o + qovr h f rm (tB t) z) (on j) V1 := by
              rw [d_X_treadDay_0_19_174, e1, bd_some, q5, q3, on_s]
            rw [← T1] at hr2
            obtain ⟨V2, e2, z2, r2, F2⟩ := ih j q (c + 1) (d + on (popc (qT h f (lo h) rm (tB t) z).2)) (o + qovr h f rm (tB t) z) _ (nw + 1) V1 l2 hr2 (K.fr F1 rfl) (by rw [F1.gi 1 1 rfl]; exact h1) z1 (by rw [F1.gi 19 2 rfl]; exact hr) (by show z.1 + 1 = _; rw [hnw, on_s]) (by omega) (by omega) (by omega) (by omega)
            have hR : dR h f rm (t :: l2) (c, d, o, z) = dR h f rm l2 (c + 1, d + on (popc (qT h f (lo h) rm (tB t) z).2), o + qovr h f rm (tB t) z, qz h f (lo h) rm (tB t) z) := by rw [dR, if_pos (tc.1.mp hcn)]
            rw [hR, ex, bd_some, if_pos (show ¬ (1 : Int32) = 0 by decide)]
            rw [ite_self, stp]
            exact ⟨V2, e2, z2, r2, Fr.tr (Fr.tr Fr.rf F1 rfl) F2 rfl⟩
          · have hR : dR h f rm (t :: l2) (c, d, o, z) = (c, d, o, z) := by rw [dR, if_neg (fun hb => hcn (tc.1.mpr hb))]
            obtain ⟨V1, e1, r1, F1⟩ := te_19 hz c d o
            rw [hR, ex, bd_some, if_neg (fun hn => hn rfl)]
            exact ⟨V1, e1, hz.fr F1 rfl rfl rfl rfl, r1, Fr.tr Fr.rf F1 rfl⟩
def wG90 : Fw := ([(89, 13), (89, 14), (89, 15), (89, 16), (89, 17), (89, 18), (89, 19), (89, 23), (89, 24), (89, 25), (89, 26), (89, 27), (89, 28), (89, 29), (89, 32), (89, 33)], [90, 97])
theorem ge_90 {V : ai_V} {z : Ss} (hz : mS z V 90 0) (c : Nat) (d o : Int32) : ∃ V', d_M_goDay_68 (on c) d o V = some (on c, V') ∧ mRow V' (dRow (c, d, o, z)) ∧ Fr ([(89, 13)], [97]) V V' := by
  obtain ⟨V2, e2, r2, F2⟩ := m_tell (m_row0 V) (by decide) z.2.1.toInt64
  obtain ⟨V3, e3, r3, F3⟩ := m_tell r2 (by show 1 < 16; omega) d.toInt64
  obtain ⟨V4, e4, r4, F4⟩ := m_tell r3 (by show 2 < 16; omega) o.toInt64
  have hl : ga V 90 12 = z.2.1 := hz.2.1
  refine ⟨V4, ?_, r4, Fr.tr (Fr.tr (Fr.tr (Fr.si Fr.rf rfl) F2 rfl) F3 rfl) F4 rfl⟩
  rw [d_M_goDay_68, ga_si, show ((12 : Int32)).toNatClampNeg = 12 from rfl, hl, e2, bd_some, e3, bd_some, e4, bd_some]
theorem go_90 {h : Hs} {f : Rf} {rm : Int32} : ∀ (l : List (List Nat)) (q c : Nat) (d o : Int32) (z : Ss) (nw : Nat) (V : ai_V), (∀ t ∈ l, tW t) → gi V 89 38 = on (c + l.length) → (∀ j, j < l.length → ga V 102 (c + j) = on (tB (l.getD j []))) → c + l.length ≤ 80 → KM V h f → mS z V 90 0 → gi V 89 8 = rm → z.1 = on nw → nw + l.length < 2000000 → l.length < q →
    ∃ V', d_M_goDay_7 q (on c) d o V = some (on (dR h f rm l (c, d, o, z)).1, V') ∧ mS (dR h f rm l (c, d, o, z)).2.2.2 V' 90 0 ∧ mRow V' (dRow (dR h f rm l (c, d, o, z))) ∧ Fr wG90 V V' := by
  intro l
  induction l with
  | nil =>
    intro q c d o z nw V _ h38 _ hc K hz h8 hnw hb hq
    obtain ⟨q, rfl⟩ : ∃ q', q = q' + 1 := ⟨q - 1, by omega⟩
    obtain ⟨V1, e1, r1, F1⟩ := ge_90 hz c d o
    refine ⟨V1, ?_, hz.fr F1 rfl, r1, Fr.tr Fr.rf F1 rfl⟩
    rw [d_M_goDay_7, h38, if_pos (show on (c + ([] : List (List Nat)).length) ≤ on c from Int32.le_refl _)]; exact e1
  | cons t l ih =>
    intro q c d o z nw V hw h38 ha hc K hz h8 hnw hb hq
    obtain ⟨q, rfl⟩ : ∃ q', q = q' + 1 := ⟨q - 1, by omega⟩
    rw [List.length_cons] at h38 hc hb hq
    have h6 := K.1.1
    have tc := tcan K.1 t (hw t (by simp))
    have a0 : ga V 102 c = on (tB t) := by have := ha 0 (by simp); rw [Nat.add_zero] at this; exact this
    have hin : ai_in (on c) 80 := by rw [on_in (by omega)]; omega
    have h64 : tB t < 64 := by
      have hwt := hw t (by simp)
      match t, hwt with
      | [], _ => decide
      | [i], hi => exact pw_lt i hi
      | i :: j :: r, hij => exact or_lt _ (pw_lt i hij.1) j hij.2.1
    have m64 := two_le h6
    rw [d_M_goDay_7, h38, if_neg (by rw [on_le (by omega) (by omega)]; omega), if_pos hin, if_pos hin, on_nn (by omega), a0, areThose_eq K.1 K.2.1, bd_some]
    by_cases e : tB t < 2 ^ hm h
    · have hR : dR h f rm (t :: l) (c, d, o, z) = dR h f rm l (c + 1, d + on (popc (qT h f (lo h) rm (tB t) z).2), o + qovr h f rm (tB t) z, qz h f (lo h) rm (tB t) z) := by rw [dR, if_pos e]
      obtain ⟨V1, e1, z1, g1, g2, g3⟩ := goQ_90 (rm := rm) K.1 K.2.1 K.2.2.1 K.2.2.2 e hz hnw (by omega)
      have F1 : Fr w_M_goQuarter V V1 := fr_M_goQuarter _ _ _ _ e1
      have hlt := qT_lt K.1 f (hst h) rm (tB t) z
      obtain ⟨V2, e2, z2, r2, F2⟩ := ih q (c + 1) (d + on (popc (qT h f (lo h) rm (tB t) z).2)) (o + qovr h f rm (tB t) z) _ (nw + 1) V1 (fun u hu => hw u (by simp [hu])) (by rw [F1.gi 89 38 rfl, h38]; congr 1; omega) (fun j hj => by rw [F1.ga 102 rfl, show c + 1 + j = c + (j + 1) by omega, ha (j + 1) (by rw [List.length_cons]; omega)]; rfl) (by omega) (K.fr F1 rfl) z1 (by rw [F1.gi 89 8 rfl]; exact h8) (by show z.1 + 1 = _; rw [hnw, on_s]) (by omega) (by omega)
      rw [if_neg (by rw [tf_pos ⟨on_ge0 (by omega), by rw [on_lt (by omega) (by omega)]; exact e⟩]; decide), h8, e1, bd_some, g3, bitCount_on _ hlt, bd_some, g2, on_s, hR]
      exact ⟨V2, e2, z2, r2, Fr.tr (Fr.tr Fr.rf F1 rfl) F2 rfl⟩
    · have hR : dR h f rm (t :: l) (c, d, o, z) = (c, d, o, z) := by rw [dR, if_neg e]
      obtain ⟨V1, e1, r1, F1⟩ := ge_90 hz c d o
      rw [if_pos (tf_neg (fun hcn => by have := hcn.2; rw [on_lt (by omega) (by omega)] at this; exact e this)), hR]
      exact ⟨V1, e1, hz.fr F1 rfl, r1, Fr.tr Fr.rf F1 rfl⟩
def wG103 : Fw := ([(89, 13), (89, 14), (89, 15), (89, 16), (89, 17), (89, 18), (89, 19), (89, 23), (89, 24), (89, 25), (89, 26), (89, 27), (89, 28), (89, 29), (89, 32), (89, 33)], [103, 97])
theorem ge_103 {V : ai_V} {z : Ss} (hz : mS z V 103 0) (c : Nat) (d o : Int32) : ∃ V', d_M_goDay_89_103_68 (on c) d o V = some (on c, V') ∧ mRow V' (dRow (c, d, o, z)) ∧ Fr ([(89, 13)], [97]) V V' := by
  obtain ⟨V2, e2, r2, F2⟩ := m_tell (m_row0 V) (by decide) z.2.1.toInt64
  obtain ⟨V3, e3, r3, F3⟩ := m_tell r2 (by show 1 < 16; omega) d.toInt64
  obtain ⟨V4, e4, r4, F4⟩ := m_tell r3 (by show 2 < 16; omega) o.toInt64
  have hl : ga V 103 12 = z.2.1 := hz.2.1
  refine ⟨V4, ?_, r4, Fr.tr (Fr.tr (Fr.tr (Fr.si Fr.rf rfl) F2 rfl) F3 rfl) F4 rfl⟩
  rw [d_M_goDay_89_103_68, ga_si, show ((12 : Int32)).toNatClampNeg = 12 from rfl, hl, e2, bd_some, e3, bd_some, e4, bd_some]
theorem go_103 {h : Hs} {f : Rf} {rm : Int32} : ∀ (l : List (List Nat)) (q c : Nat) (d o : Int32) (z : Ss) (nw : Nat) (V : ai_V), (∀ t ∈ l, tW t) → gi V 89 38 = on (c + l.length) → (∀ j, j < l.length → ga V 102 (c + j) = on (tB (l.getD j []))) → c + l.length ≤ 80 → KM V h f → mS z V 103 0 → gi V 89 8 = rm → z.1 = on nw → nw + l.length < 2000000 → l.length < q →
    ∃ V', d_M_goDay_89_103_7 q (on c) d o V = some (on (dR h f rm l (c, d, o, z)).1, V') ∧ mS (dR h f rm l (c, d, o, z)).2.2.2 V' 103 0 ∧ mRow V' (dRow (dR h f rm l (c, d, o, z))) ∧ Fr wG103 V V' := by
  intro l
  induction l with
  | nil =>
    intro q c d o z nw V _ h38 _ hc K hz h8 hnw hb hq
    obtain ⟨q, rfl⟩ : ∃ q', q = q' + 1 := ⟨q - 1, by omega⟩
    obtain ⟨V1, e1, r1, F1⟩ := ge_103 hz c d o
    refine ⟨V1, ?_, hz.fr F1 rfl, r1, Fr.tr Fr.rf F1 rfl⟩
    rw [d_M_goDay_89_103_7, h38, if_pos (show on (c + ([] : List (List Nat)).length) ≤ on c from Int32.le_refl _)]; exact e1
  | cons t l ih =>
    intro q c d o z nw V hw h38 ha hc K hz h8 hnw hb hq
    obtain ⟨q, rfl⟩ : ∃ q', q = q' + 1 := ⟨q - 1, by omega⟩
    rw [List.length_cons] at h38 hc hb hq
    have h6 := K.1.1
    have tc := tcan K.1 t (hw t (by simp))
    have a0 : ga V 102 c = on (tB t) := by have := ha 0 (by simp); rw [Nat.add_zero] at this; exact this
    have hin : ai_in (on c) 80 := by rw [on_in (by omega)]; omega
    have h64 : tB t < 64 := by
      have hwt := hw t (by simp)
      match t, hwt with
      | [], _ => decide
      | [i], hi => exact pw_lt i hi
      | i :: j :: r, hij => exact or_lt _ (pw_lt i hij.1) j hij.2.1
    have m64 := two_le h6
    rw [d_M_goDay_89_103_7, h38, if_neg (by rw [on_le (by omega) (by omega)]; omega), if_pos hin, if_pos hin, on_nn (by omega), a0, areThose_eq K.1 K.2.1, bd_some]
    by_cases e : tB t < 2 ^ hm h
    · have hR : dR h f rm (t :: l) (c, d, o, z) = dR h f rm l (c + 1, d + on (popc (qT h f (lo h) rm (tB t) z).2), o + qovr h f rm (tB t) z, qz h f (lo h) rm (tB t) z) := by rw [dR, if_pos e]
      obtain ⟨V1, e1, z1, g1, g2, g3⟩ := goQ_103 (rm := rm) K.1 K.2.1 K.2.2.1 K.2.2.2 e hz hnw (by omega)
      have F1 : Fr w_M_goQuarter_89_103 V V1 := fr_M_goQuarter_89_103 _ _ _ _ e1
      have hlt := qT_lt K.1 f (hst h) rm (tB t) z
      obtain ⟨V2, e2, z2, r2, F2⟩ := ih q (c + 1) (d + on (popc (qT h f (lo h) rm (tB t) z).2)) (o + qovr h f rm (tB t) z) _ (nw + 1) V1 (fun u hu => hw u (by simp [hu])) (by rw [F1.gi 89 38 rfl, h38]; congr 1; omega) (fun j hj => by rw [F1.ga 102 rfl, show c + 1 + j = c + (j + 1) by omega, ha (j + 1) (by rw [List.length_cons]; omega)]; rfl) (by omega) (K.fr F1 rfl) z1 (by rw [F1.gi 89 8 rfl]; exact h8) (by show z.1 + 1 = _; rw [hnw, on_s]) (by omega) (by omega)
      rw [if_neg (by rw [tf_pos ⟨on_ge0 (by omega), by rw [on_lt (by omega) (by omega)]; exact e⟩]; decide), h8, e1, bd_some, g3, bitCount_on _ hlt, bd_some, g2, on_s, hR]
      exact ⟨V2, e2, z2, r2, Fr.tr (Fr.tr Fr.rf F1 rfl) F2 rfl⟩
    · have hR : dR h f rm (t :: l) (c, d, o, z) = (c, d, o, z) := by rw [dR, if_neg e]
      obtain ⟨V1, e1, r1, F1⟩ := ge_103 hz c d o
      rw [if_pos (tf_neg (fun hcn => by have := hcn.2; rw [on_lt (by omega) (by omega)] at this; exact e this)), hR]
      exact ⟨V1, e1, hz.fr F1 rfl, r1, Fr.tr Fr.rf F1 rfl⟩
