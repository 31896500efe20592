/-! ===== house: all lines taken ===== -/
def AZ (m : Nat) (A : Ha) : Prop := ∀ i, 12 * m ≤ i → A.2.2.2.1 i = 0
theorem ad1_z {T : Nat → Int32} {e m : Nat} {p : Nat × Nat} {A : Ha} (h : AZ m A) (ok : lineOk T e p) : AZ (m + 1) (ad1 T m p A) := by
  intro i hi
  have := ok.2.2.2.2.2.1
  show wUp T m (p.1 + 4) p.2 A.2.2.2.1 i = 0
  unfold wUp
  rw [if_neg (by omega)]
  exact h i (by omega)
theorem adL_ok {T : Nat → Int32} {e : Nat} : ∀ (l : List (Nat × Nat)) (m : Nat) (A : Ha), AO m A → AZ m A → (∀ p ∈ l, lineOk T e p) → AO (m + l.length) (adL T m l A) ∧ AZ (m + l.length) (adL T m l A) := by
  intro l
  induction l with
  | nil => intro m A h1 h2 _; exact ⟨h1, h2⟩
  | cons p l ih =>
    intro m A h1 h2 h3
    have ok := h3 p (by simp)
    have := ih (m + 1) (ad1 T m p A) (ad1_ok h1 (fun q hq => by rw [h2 (12 * m + q) (by omega)]; decide) ok) (ad1_z h2 ok) (fun p2 hp => h3 p2 (by simp [hp]))
    rw [show m + 1 + l.length = m + (p :: l).length by rw [List.length_cons]; omega] at this
    exact this
theorem hP_ok {T : Nat → Int32} {e m : Nat} : ∀ (k L a : Nat) {l : List (Nat × Nat)}, hP T e m k L a = .inl l → m + L + l.length ≤ 6 ∧ 1 ≤ l.length ∧ ∀ p ∈ l, lineOk T e p := by
  intro k
  induction k with
  | zero => intro L a l h; cases h
  | succ k ih =>
    intro L a l h
    by_cases full : 6 ≤ m + L
    · rw [hP_full k full] at h; cases h
    · cases hd : lT T e a with
      | inr p => rw [hP_bad k full hd] at h; cases h
      | inl w =>
        rw [hP_go k full hd] at h
        have ok := lT_ok hd
        by_cases e1 : e ≤ a + 4 + w
        · rw [if_pos e1] at h
          have := Sum.inl.inj h
          subst this
          refine ⟨by simp; omega, by simp, fun p hp => ?_⟩
          have := List.mem_singleton.mp hp
          rw [this]; exact ok
        · rw [if_neg e1] at h
          by_cases e9 : T (a + 4 + w) = 59
          · rw [if_pos e9] at h
            cases hr : hP T e m k (L + 1) (a + 4 + w + 1) with
            | inr p => rw [hr] at h; cases h
            | inl l2 =>
              rw [hr] at h
              have := Sum.inl.inj h
              subst this
              obtain ⟨i1, i2, i3⟩ := ih (L + 1) (a + 4 + w + 1) hr
              refine ⟨by rw [List.length_cons]; omega, by rw [List.length_cons]; omega, fun p hp => ?_⟩
              rcases List.mem_cons.mp hp with rfl | hp
              · exact ok
              · exact i3 p hp
          · rw [if_neg e9] at h; cases h
theorem tl_done {V : ai_V} {m : Nat} {A : Ha} (h3 : gi V 3 0 = on m) (hm : m < 6) (hA : cA V A) (hO : AO (m + 1) A) : ∃ V', d_House_takeLines_69 V = some V' ∧ gi V' 3 0 = on (m + 1) ∧ cA V' A ∧ CO V' 9 (ordL A.1 (m + 1)) ∧ Fr ([(3, 0)], [9]) V V' := by
  have e6 : ai_min (gi V 3 0 + 1) 6 = on (m + 1) := by rw [h3, on_s, show (6 : Int32) = on 6 from rfl, min_on (by omega) (by omega), show min (m + 1) 6 = m + 1 by omega]
  have ne : ∀ i, i < m + 1 → ¬ on i = (-1 : Int32) := fun i hi => on_ne_m1 (by omega)
  obtain ⟨V1, e1, o1, F1⟩ := order_9 (V := si V 3 0 (on (m + 1))) (m := m + 1) (x2 := -1) (x3 := -1) (g := A.1) (s := fun i => i) (by rw [gi_si, if_pos ⟨rfl, rfl⟩]) (by omega) (fun i hi => ⟨by omega, by rw [ga_si, hA.1], fun _ _ => rfl, fun _ h => absurd h (ne i hi), fun h => absurd h (ne i hi)⟩) (fun i hi => (hO i hi).1)
  refine ⟨V1, by rw [d_House_takeLines_69, e6, e1, bd_some], by rw [F1.gi 3 0 rfl, gi_si, if_pos ⟨rfl, rfl⟩], ?_, o1, Fr.tr (Fr.si Fr.rf rfl) F1 rfl⟩
  obtain ⟨c1, c2, c3, c4, c5⟩ := hA
  exact ⟨by rw [F1.ga 4 rfl]; exact c1, by rw [F1.ga 5 rfl]; exact c2, by rw [F1.ga 6 rfl]; exact c3, by rw [F1.ga 7 rfl]; exact c4, by rw [F1.ga 8 rfl]; exact c5⟩
theorem take_eq {V0 : ai_V} {n m : Nat} (hn : n ≤ 80) (h1 : gi V0 1 1 = on n) : ∀ (k L a q : Nat) (V : ai_V) (A : Ha) (l : List (Nat × Nat)), hP (ga V0 2) n m k L a = .inl l → tlR V0 V (m + L) A → AO (m + L) A → AZ (m + L) A → n - a < q →
    ∃ V', d_House_takeLines_4 q (on 0) (on a) V = some V' ∧ gi V' 3 0 = on (m + L + l.length) ∧ cA V' (adL (ga V0 2) (m + L) l A) ∧ CO V' 9 (ordL (adL (ga V0 2) (m + L) l A).1 (m + L + l.length)) ∧ Fr wHo V0 V' := by
  intro k
  induction k with
  | zero => intro L a q V A l h; cases h
  | succ k ih =>
    intro L a q V A l h hR hO hZ hq
    by_cases full : 6 ≤ m + L
    · rw [hP_full k full] at h; cases h
    · cases hd : lT (ga V0 2) n a with
      | inr p => rw [hP_bad k full hd] at h; cases h
      | inl w =>
        rw [hP_go k full hd] at h
        have ok := lT_ok hd
        obtain ⟨q1, V1, hq1, e1, r1⟩ := tl_line hn h1 (show m + L < 6 by omega) hR ok hq
        have o1 := ad1_ok hO (fun q hq => by rw [hZ (12 * (m + L) + q) (by omega)]; decide) ok
        have z1 := ad1_z hZ ok
        rw [e1]
        have okl : a + 4 + w ≤ n := ok.2.2.2.2.2.2.2
        obtain ⟨q1, rfl⟩ : ∃ q', q1 = q' + 1 := ⟨q1 - 1, by omega⟩
        by_cases ee : n ≤ a + 4 + w
        · rw [if_pos ee] at h
          have := Sum.inl.inj h
          subst this
          obtain ⟨V2, e2, g2, a2, c2, F2⟩ := tl_done r1.1 (by omega) r1.2.1 o1
          refine ⟨V2, ?_, g2, a2, c2, Fr.tr r1.2.2 F2 rfl⟩
          rw [d_House_takeLines_4, r1.2.2.gi 1 1 rfl, h1, if_pos (by rw [on_le (by omega) (by omega)]; exact ee), e2]
        · rw [if_neg ee] at h
          by_cases e9 : ga V0 2 (a + 4 + w) = 59
          · rw [if_pos e9] at h
            cases hr : hP (ga V0 2) n m k (L + 1) (a + 4 + w + 1) with
            | inr p => rw [hr] at h; cases h
            | inl l2 =>
              rw [hr] at h
              have := Sum.inl.inj h
              subst this
              have T1 : ga V1 2 = ga V0 2 := r1.2.2.ga 2 rfl
              have st := (tl_step (s := 4 + w) q1 hn (by rw [r1.2.2.gi 1 1 rfl]; exact h1) r1.1 (by omega) (show a + 4 + w < n by omega)).2 (by rw [T1]; exact e9)
              rw [st]
              have r2 : tlR V0 (si V1 3 0 (on (m + L + 1))) (m + (L + 1)) (ad1 (ga V0 2) (m + L) (a, w) A) := ⟨by rw [gi_si, if_pos ⟨rfl, rfl⟩]; rfl, r1.2.1, Fr.si r1.2.2 rfl⟩
              obtain ⟨V2, e2, g2, a2, c2, F2⟩ := ih (L + 1) (a + 4 + w + 1) q1 _ _ l2 hr r2 o1 z1 (by omega)
              refine ⟨V2, e2, ?_, a2, ?_, F2⟩
              · rw [g2, List.length_cons]; congr 1; omega
              · rw [show m + L + ((a, w) :: l2).length = m + (L + 1) + l2.length by rw [List.length_cons]; omega]
                exact c2
          · rw [if_neg e9] at h; cases h
theorem X_take {V : ai_V} {n m : Nat} {A : Ha} {l : List (Nat × Nat)} (hn : n ≤ 80) (h1 : gi V 1 1 = on n) (h3 : gi V 3 0 = on m) (hA : cA V A) (hO : AO m A) (hZ : AZ m A) (hp : hP (ga V 2) n m 77 0 0 = .inl l) :
    ∃ V', d_House_takeLines V = some V' ∧ gi V' 3 0 = on (m + l.length) ∧ cA V' (adL (ga V 2) m l A) ∧ CO V' 9 (ordL (adL (ga V 2) m l A).1 (m + l.length)) ∧ Fr wHo V V' := by
  rw [d_House_takeLines]
  exact take_eq hn h1 77 0 0 ai_N V A l hp ⟨h3, hA, Fr.rf⟩ hO hZ (N_gt (by omega))
