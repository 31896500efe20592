/-! ===== house: the model's lines ===== -/
def HsOk (T : Nat → Int32) (V V' : ai_V) (L : Nat) (r : Option (Int32 × ai_V)) : List (Nat × Nat) ⊕ Nat → Prop
  | .inl l => r = d_M_house_126 ai_N (on (L + l.length)) 0 V' ∧ (∀ i, i < l.length → lD T V' (L + i) (l.getD i (0, 0))) ∧ ∀ j, j < 16 * L → ga V' 98 j = ga V 98 j
  | .inr p => r = some (-1 - on p, V')
theorem h91_f {V : ai_V} {p : Nat} (h : gi V 89 19 = on p) (hp : p < 2147483648) (x : Int32) : d_M_house_91 x V = some (-1 - on p, V) := by
  have h110 : d_M_house_110 x V = some (-1 - on p, V) := by rw [d_M_house_110, fine_n h hp, bd_some, if_neg (fun hn => hn rfl), h]
  rw [d_M_house_91]
  by_cases e : gi V 89 16 ≤ gi V 89 18
  · rw [if_pos e, h110]
  · rw [if_neg e, fault_n h hp, bd_some, h110]
theorem h37_0 (q : Nat) (x : Int32) (V : ai_V) : d_M_house_37 (q + 1) x 0 V = d_M_house_91 x V := by rw [d_M_house_37, if_pos rfl]
theorem h78_f {V : ai_V} {p : Nat} (q : Nat) (h : gi V 89 19 = on p) (hp : p < 2147483648) (x : Int32) : d_M_house_78 (d_M_house_37 (q + 1)) x V = some (-1 - on p, V) := by
  rw [d_M_house_78, passes_f h hp, bd_some]
  show d_M_house_37 (q + 1) (x + 1) 0 V = _
  rw [h37_0, h91_f h hp]
theorem lD.fr {T : Nat → Int32} {V V' : ai_V} {L : Nat} {p : Nat × Nat} (h : lD T V L p) (hp : p.2 ≤ 12) (e : ∀ j, j < 16 * (L + 1) → ga V' 98 j = ga V 98 j) : lD T V' L p := by
  obtain ⟨h1, h2, h3, h4, h5⟩ := h
  exact ⟨by rw [e _ (by omega)]; exact h1, by rw [e _ (by omega)]; exact h2, by rw [e _ (by omega)]; exact h3, by rw [e _ (by omega)]; exact h4, fun k hk => by rw [e _ (by omega)]; exact h5 k hk⟩
theorem M_lines {T : Nat → Int32} {n m : Nat} (hn : n ≤ 80) : ∀ (k L a q : Nat) (V : ai_V), MT V n 76 a → TX V T → gi V 89 1 = on m → m + L ≤ 6 → a ≤ min n 76 → min n 76 - a < k → 10 < q + L →
    ∃ V', HsOk T V V' L (d_M_house_37 q (on L) 1 V) (hV n (hP T (min n 76) m k L a)) ∧ Fr wRo V V' := by
  intro k
  induction k with
  | zero => intro L a q V _ _ _ _ _ h; omega
  | succ k ih =>
    intro L a q V h t hm hL ha hk hq
    obtain ⟨q, rfl⟩ : ∃ q', q = q' + 1 + 1 := ⟨q - 2, by omega⟩
    by_cases full : 6 ≤ m + L
    · rw [hP_full k full]
      refine ⟨si V 89 19 (on a), ?_, Fr.si Fr.rf rfl⟩
      show d_M_house_37 (q + 1 + 1) (on L) 1 V = some (-1 - on a, si V 89 19 (on a))
      rw [d_M_house_37, if_neg (by decide), fine_y h.2.2.2.2, bd_some, if_neg (by decide), hm, on_add, if_neg (fun hn => hn (by rw [show m + L = 6 by omega]; rfl)), h.2.2.2.1, fault_y h.2.2.2.2, bd_some, h78_f (p := a) q (by rw [gi_si, if_pos ⟨rfl, rfl⟩]) (by omega)]
    · obtain ⟨V1, e1, ok, F1⟩ := M_one (L := L) hn (by omega) h t ha
      have hx : d_M_house_37 (q + 1 + 1) (on L) 1 V = d_M_house_78 (d_M_house_37 (q + 1)) (on L) V1 := by
        rw [d_M_house_37, if_neg (by decide), fine_y h.2.2.2.2, bd_some, if_neg (by decide), hm, on_add, if_pos (by rw [show (6 : Int32) = on 6 from rfl, on_inj (by omega) (by omega)]; omega), show (16 : Int32) = on 16 from rfl, on_mul, e1, bd_some]
      rw [hx]
      cases hd : lT T (min n 76) a with
      | inr p =>
        rw [hd] at ok
        have hp : p ≤ a + 4 := by
          rcases lT_cases T (min n 76) a with ⟨c0, d⟩ | ⟨c0, c1, d⟩ | ⟨c0, c1, c2, d⟩ | ⟨c0, c1, c2, c3, d⟩ | ⟨c0, c1, c2, c3, c4, d⟩ | ⟨c0, c1, c2, c3, c4, d⟩ <;> rw [hd] at d
          · have := Sum.inr.inj d; omega
          · have := Sum.inr.inj d; omega
          · have := Sum.inr.inj d; omega
          · have := Sum.inr.inj d; omega
          · have := Sum.inr.inj d; omega
          · cases d
        rw [hP_bad k full hd]
        exact ⟨V1, h78_f q ok (by omega) _, F1⟩
      | inl w =>
        have lok := lT_ok hd
        have okl : a + 4 + w ≤ min n 76 := lok.2.2.2.2.2.2.2
        have w12 : w ≤ 12 := lok.2.2.2.2.2.1
        rw [hd] at ok
        obtain ⟨o1, o2, o3⟩ := ok
        rw [hP_go k full hd]
        rcases o1 with o1 | ⟨o1, o4, o5⟩
        · have t1 : TX V1 T := t.fr F1 rfl
          by_cases ee : min n 76 ≤ a + 4 + w
          · rw [if_pos ee]
            have p0 : d_M_passes 59 V1 = some (0, V1) := passes_n hn (by omega) (by omega) o1 t1 (fun x y => by omega) (by decide)
            have hy : d_M_house_78 (d_M_house_37 (q + 1)) (on L) V1 = d_M_house_91 (on (L + 1)) V1 := by
              rw [d_M_house_78, p0, bd_some]
              show d_M_house_37 (q + 1) (on L + 1) 0 V1 = _
              rw [h37_0, on_s]
            rw [hy]
            by_cases e76 : n ≤ 76
            · rw [hV_y e76]
              refine ⟨V1, ⟨?_, fun i hi => ?_, o3⟩, F1⟩
              · rw [d_M_house_91, o1.2.1, o1.2.2.2.1, if_pos (by rw [on_le (by omega) (by omega)]; omega), d_M_house_110, fine_y o1.2.2.2.2, bd_some, if_pos (by decide)]; rfl
              · have hi0 : i = 0 := by simp at hi; exact hi
                subst hi0
                exact o2
            · rw [hV_n e76]
              refine ⟨si V1 89 19 (on 76), ?_, Fr.si F1 rfl⟩
              have hj : a + 4 + w = 76 := by omega
              show d_M_house_91 (on (L + 1)) V1 = some (-1 - on 76, si V1 89 19 (on 76))
              rw [d_M_house_91, o1.2.1, o1.2.2.2.1, if_neg (by rw [on_le (by omega) (by omega)]; omega), fault_y o1.2.2.2.2, bd_some, hj, d_M_house_110, fine_n (p := 76) (by rw [gi_si, if_pos ⟨rfl, rfl⟩]) (by omega), bd_some, if_neg (fun hn => hn rfl), gi_si, if_pos ⟨rfl, rfl⟩]
          · rw [if_neg ee]
            by_cases e9 : T (a + 4 + w) = 59
            · rw [if_pos e9]
              have p1 : d_M_passes 59 V1 = some (1, si V1 89 18 (on (a + 4 + w + 1))) := passes_y hn (by omega) o1 t1 (by omega) (by omega) e9
              have hy : d_M_house_78 (d_M_house_37 (q + 1)) (on L) V1 = d_M_house_37 (q + 1) (on (L + 1)) 1 (si V1 89 18 (on (a + 4 + w + 1))) := by
                rw [d_M_house_78, p1, bd_some]
                show d_M_house_37 (q + 1) (on L + 1) 1 _ = _
                rw [on_s]
              rw [hy]
              have F2 : Fr wRo V (si V1 89 18 (on (a + 4 + w + 1))) := Fr.si F1 rfl
              obtain ⟨V3, ok3, F3⟩ := ih (L + 1) (a + 4 + w + 1) (q + 1) (si V1 89 18 (on (a + 4 + w + 1))) (o1.go _) (t.fr F2 rfl) (by rw [F2.gi 89 1 rfl]; exact hm) (by omega) (by omega) (by omega) (by omega)
              refine ⟨V3, ?_, Fr.tr F2 F3 rfl⟩
              cases hr : hP T (min n 76) m k (L + 1) (a + 4 + w + 1) with
              | inr p => rw [hr] at ok3; exact ok3
              | inl l =>
                rw [hr] at ok3
                show HsOk T V V3 L _ (hV n (.inl ((a, w) :: l)))
                by_cases e76 : n ≤ 76
                · rw [hV_y e76] at ok3 ⊢
                  obtain ⟨k1, k2, k3⟩ := ok3
                  refine ⟨?_, fun i hi => ?_, fun j hj => ?_⟩
                  · rw [k1, show L + 1 + l.length = L + ((a, w) :: l).length by rw [List.length_cons]; omega]
                  · rcases Nat.eq_zero_or_pos i with rfl | h0
                    · exact o2.fr w12 (fun j hj => by rw [k3 j hj, ga_si])
                    · obtain ⟨y, rfl⟩ : ∃ y, i = y + 1 := ⟨i - 1, by omega⟩
                      rw [List.length_cons] at hi
                      have := k2 y (by omega)
                      rw [show L + 1 + y = L + (y + 1) by omega] at this
                      exact this
                  · rw [k3 j (by omega), ga_si, o3 j hj]
                · rw [hV_n e76] at ok3 ⊢; exact ok3
            · rw [if_neg e9]
              have p0 : d_M_passes 59 V1 = some (0, V1) := passes_n hn (by omega) (by omega) o1 t1 (fun x y => e9) (by decide)
              refine ⟨si V1 89 19 (on (a + 4 + w)), ?_, Fr.si F1 rfl⟩
              show d_M_house_78 (d_M_house_37 (q + 1)) (on L) V1 = some (-1 - on (a + 4 + w), si V1 89 19 (on (a + 4 + w)))
              rw [d_M_house_78, p0, bd_some]
              show d_M_house_37 (q + 1) (on L + 1) 0 V1 = _
              rw [h37_0, d_M_house_91, o1.2.1, o1.2.2.2.1, if_neg (by rw [on_le (by omega) (by omega)]; omega), fault_y o1.2.2.2.2, bd_some, d_M_house_110, fine_n (p := a + 4 + w) (by rw [gi_si, if_pos ⟨rfl, rfl⟩]) (by omega), bd_some, if_neg (fun hn => hn rfl), gi_si, if_pos ⟨rfl, rfl⟩]
        · rw [if_neg (by omega), if_neg (n59 o5.2)]
          exact ⟨V1, h78_f q o1 (by omega) _, F1⟩
