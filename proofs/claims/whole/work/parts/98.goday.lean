/-! ===== day, look ===== -/
def DayOk (V V' : ai_V) (c : Nat) (v : Int32) : List (List Nat) ⊕ Nat → Prop
  | .inl l => v = 0 ∧ gi V' 89 38 = on (c + l.length) ∧ (∀ j, j < l.length → ga V' 102 (c + j) = on (tB (l.getD j []))) ∧ (∀ j, j < c → ga V' 102 j = ga V 102 j)
  | .inr p => v = -1 - on p
theorem day_bad {V : ai_V} {p : Nat} (h : gi V 89 19 = on p) (hp : p < 2147483648) : d_M_readDay_60 V = some (-1 - on p, V) := by
  have h79 : d_M_readDay_79 V = some (-1 - on p, V) := by rw [d_M_readDay_79, fine_n h hp, bd_some, if_pos rfl, h]
  rw [d_M_readDay_60]
  by_cases e : gi V 89 16 ≤ gi V 89 18
  · rw [if_pos e, h79]
  · rw [if_neg e, fault_n h hp, bd_some, h79]
theorem dT_rng {T : Nat → Int32} {e i p : Nat} (h : i < e) (d : dT T e i = .inr p) : p ≤ e := by
  rcases dT_cases T h with ⟨c1, d'⟩ | ⟨c1, c2, d'⟩ | ⟨c1, c2, c3, d'⟩ | ⟨c1, c2, c3, c4, d'⟩ | ⟨c1, c2, c3, c4, d'⟩ | ⟨c1, d'⟩ | ⟨c1, c2, c3, d'⟩ <;> rw [d] at d'
  · cases d'
  · have := Sum.inr.inj d'; omega
  · have := Sum.inr.inj d'; omega
  · have := Sum.inr.inj d'; omega
  · cases d'
  · cases d'
  · have := Sum.inr.inj d'; omega
def tW : List Nat → Prop
  | [] => True
  | [i] => i < 6
  | i :: j :: _ => i < 6 ∧ j < 6 ∧ i ≠ j
theorem dT_next {T : Nat → Int32} {e i j : Nat} {t : List Nat} (h : i < e) (d : dT T e i = .inl (t, j)) : i < j ∧ j ≤ e ∧ tW t := by
  rcases dT_cases T h with ⟨c1, d'⟩ | ⟨c1, c2, d'⟩ | ⟨c1, c2, c3, d'⟩ | ⟨c1, c2, c3, c4, d'⟩ | ⟨c1, c2, c3, c4, d'⟩ | ⟨c1, d'⟩ | ⟨c1, c2, c3, d'⟩ <;> rw [d] at d'
  · obtain ⟨rfl, rfl⟩ := Prod.mk.inj (Sum.inl.inj d')
    exact ⟨by omega, by omega, trivial⟩
  · cases d'
  · cases d'
  · cases d'
  · obtain ⟨rfl, rfl⟩ := Prod.mk.inj (Sum.inl.inj d')
    exact ⟨by omega, by omega, (lt_on c2.2).2.1, (lt_on c3.2.1).2.1, fun e => c3.2.2 (lt_inj c2.2 c3.2.1 e).symm⟩
  · obtain ⟨rfl, rfl⟩ := Prod.mk.inj (Sum.inl.inj d')
    exact ⟨by omega, by omega, (lt_on c1).2.1⟩
  · cases d'
theorem dayP_ok {T : Nat → Int32} {e : Nat} : ∀ (k i : Nat) {l : List (List Nat)}, dayP T e k i = .inl l → l.length ≤ e - i ∧ ∀ t ∈ l, tW t := by
  intro k
  induction k with
  | zero => intro i l h; cases h
  | succ k ih =>
    intro i l h
    by_cases hi : e ≤ i
    · rw [dayP_end _ _ hi] at h
      injection h with h
      subst h
      exact ⟨by simp, fun t ht => by cases ht⟩
    · cases hd : dT T e i with
      | inr p => rw [dayP_bad k (by omega) hd] at h; cases h
      | inl u =>
        obtain ⟨t, j⟩ := u
        rw [dayP_go k (by omega) hd] at h
        have hn := dT_next (by omega) hd
        cases hr : dayP T e k j with
        | inr p => rw [hr] at h; cases h
        | inl l2 =>
          rw [hr] at h
          injection h with h
          subst h
          have := ih j hr
          refine ⟨by rw [List.length_cons]; omega, fun t2 ht => ?_⟩
          rcases List.mem_cons.mp ht with rfl | ht
          · exact hn.2.2
          · exact this.2 t2 ht
theorem day_M {T : Nat → Int32} {n : Nat} (hn : n ≤ 80) : ∀ (k i c q : Nat) (V : ai_V), MT V n 48 i → TX V T → gi V 89 38 = on c → c ≤ i → i ≤ min n 48 → min n 48 - i < k → min n 48 - i < q →
    ∃ v V', d_M_readDay_24 q V = some (v, V') ∧ DayOk V V' c v (dayV n (dayP T (min n 48) k i)) ∧ Fr wRd V V' := by
  intro k
  induction k with
  | zero => intro i c q V _ _ _ _ _ h; omega
  | succ k ih =>
    intro i c q V h t h38 hci hi hk hq
    obtain ⟨q, rfl⟩ : ∃ q', q = q' + 1 := ⟨q - 1, by omega⟩
    by_cases e : min n 48 ≤ i
    · have hx : d_M_readDay_24 (q + 1) V = d_M_readDay_60 V := by
        rw [d_M_readDay_24, fine_y h.2.2.2.2, bd_some, if_neg (by decide), h.2.1, h.2.2.1, h.2.2.2.1]
        by_cases e1 : n ≤ i
        · rw [if_pos (by rw [on_le (by omega) (by omega)]; exact e1)]
        · rw [if_neg (by rw [on_le (by omega) (by omega)]; exact e1), if_pos (by rw [on_le (by omega) (by omega)]; omega)]
      rw [hx, dayP_end _ _ e, d_M_readDay_60, h.2.1, h.2.2.2.1]
      by_cases e1 : n ≤ 48
      · rw [if_pos (by rw [on_le (by omega) (by omega)]; omega), dayV_y e1, d_M_readDay_79, fine_y h.2.2.2.2, bd_some, if_neg (by decide)]
        exact ⟨_, _, rfl, ⟨rfl, h38, fun j hj => by simp at hj, fun j hj => rfl⟩, Fr.rf⟩
      · rw [if_neg (by rw [on_le (by omega) (by omega)]; omega), dayV_n e1, fault_y h.2.2.2.2, bd_some, d_M_readDay_79, fine_n (p := i) (by rw [gi_si, if_pos ⟨rfl, rfl⟩]) (by omega), bd_some, if_pos rfl, gi_si, if_pos ⟨rfl, rfl⟩]
        exact ⟨_, _, rfl, by show -1 - on i = -1 - on 48; rw [show i = 48 by omega], Fr.si Fr.rf rfl⟩
    · obtain ⟨V1, e1, ok, F1⟩ := M_turn hn h t (by omega) (show c < 80 by omega) h38
      have hx : d_M_readDay_24 (q + 1) V = d_M_readDay_24 q V1 := by
        rw [d_M_readDay_24, fine_y h.2.2.2.2, bd_some, if_neg (by decide), h.2.1, h.2.2.1, h.2.2.2.1, if_neg (by rw [on_le (by omega) (by omega)]; omega), if_neg (by rw [on_le (by omega) (by omega)]; omega), e1, bd_some]
      rw [hx]
      cases hd : dT T (min n 48) i with
      | inr p =>
        rw [hd] at ok
        have hp := dT_rng (by omega) hd
        obtain ⟨q, rfl⟩ : ∃ q', q = q' + 1 := ⟨q - 1, by omega⟩
        rw [dayP_bad k (by omega) hd, d_M_readDay_24, fine_n ok (by omega), bd_some, if_pos rfl, day_bad ok (by omega)]
        exact ⟨_, _, rfl, rfl, F1⟩
      | inl u =>
        obtain ⟨tt, j⟩ := u
        rw [hd] at ok
        obtain ⟨m1, m2, m3⟩ := ok
        have hj := dT_next (by omega) hd
        obtain ⟨v, V2, e2, ok2, F2⟩ := ih j (c + 1) q V1 m1 (t.fr F1 rfl) m2 (by omega) (by omega) (by omega) (by omega)
        refine ⟨v, V2, e2, ?_, Fr.tr F1 F2 rfl⟩
        rw [dayP_go k (by omega) hd]
        cases hr : dayP T (min n 48) k j with
        | inr p => rw [hr] at ok2; exact ok2
        | inl l =>
          rw [hr] at ok2
          by_cases e48 : n ≤ 48
          · rw [dayV_y e48] at ok2
            show DayOk V V2 c v (dayV n (.inl (tt :: l)))
            rw [dayV_y e48]
            obtain ⟨o1, o2, o3, o4⟩ := ok2
            refine ⟨o1, by rw [o2, List.length_cons]; congr 1; omega, fun x hx => ?_, fun x hx => ?_⟩
            · rcases Nat.eq_zero_or_pos x with rfl | hx0
              · rw [Nat.add_zero, o4 c (by omega), m3, if_pos rfl]; rfl
              · obtain ⟨y, rfl⟩ : ∃ y, x = y + 1 := ⟨x - 1, by omega⟩
                rw [List.length_cons] at hx
                have := o3 y (by omega)
                rw [show c + (y + 1) = c + 1 + y by omega, this]; rfl
            · rw [o4 x (by omega), m3, if_neg (by omega)]
          · rw [dayV_n e48] at ok2
            show DayOk V V2 c v (dayV n (.inl (tt :: l)))
            rw [dayV_n e48]; exact ok2
theorem M_readDay {V : ai_V} {T : Nat → Int32} {n : Nat} (hn : n ≤ 80) (h11 : gi V 89 11 = on n) (t : TX V T) : ∃ v V', d_M_readDay V = some (v, V') ∧ DayOk V V' 0 v (dayV n (dayP T (min n 48) 49 0)) ∧ gi V' 89 11 = 0 ∧ Fr ([(89, 11), (89, 15), (89, 16), (89, 17), (89, 18), (89, 19), (89, 38)], [102]) V V' := by
  rw [d_M_readDay, h11, d_M_begin, bd_some]
  have F0 : Fr ([(89, 11), (89, 15), (89, 16), (89, 17), (89, 18), (89, 19), (89, 38)], [102]) V (si (si (si (si (si (si (sr V 89 15 (some 96)) 89 16 (on n)) 89 17 (48 : Int32)) 89 18 (0 : Int32)) 89 19 (-1 : Int32)) 89 11 0) 89 38 0) := Fr.si (Fr.si (Fr.si (Fr.si (Fr.si (Fr.si (Fr.sr Fr.rf rfl (Or.inl rfl)) rfl) rfl) rfl) rfl) rfl) rfl
  have m0 : MT (si (si (si (si (si (si (sr V 89 15 (some 96)) 89 16 (on n)) 89 17 (48 : Int32)) 89 18 (0 : Int32)) 89 19 (-1 : Int32)) 89 11 0) 89 38 0) n 48 0 := by
    refine ⟨?_, ?_, ?_, ?_, ?_⟩
    · simp only [gr_si]; rw [gr_sr, if_pos ⟨rfl, rfl⟩]
    · simp only [gi_si]; simp
    · simp only [gi_si]; simp; rfl
    · simp only [gi_si]; simp; rfl
    · simp only [gi_si]; simp
  obtain ⟨v, V', e, ok, F⟩ := day_M (T := T) hn 49 0 0 ai_N _ m0 (t.fr F0 rfl) (by rw [gi_si, if_pos ⟨rfl, rfl⟩]; rfl) (by omega) (by omega) (by omega) (N_gt (by omega))
  refine ⟨v, V', e, ?_, ?_, Fr.tr F0 F rfl⟩
  · revert ok
    cases dayV n (dayP T (min n 48) 49 0) with
    | inr p => exact fun ok => ok
    | inl l => exact fun ok => ⟨ok.1, ok.2.1, ok.2.2.1, fun j hj => by omega⟩
  · rw [F.gi 89 11 rfl]; simp only [gi_si]; simp
