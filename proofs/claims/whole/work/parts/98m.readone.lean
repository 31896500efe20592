/-! ===== house: the model's line ===== -/
def lD (T : Nat → Int32) (V : ai_V) (L : Nat) (p : Nat × Nat) : Prop := ga V 98 (16 * L) = T p.1 - 48 ∧ ga V 98 (16 * L + 1) = T (p.1 + 1) - 48 ∧ ga V 98 (16 * L + 2) = T (p.1 + 2) - 48 ∧ ga V 98 (16 * L + 3) = on p.2 ∧ ∀ k, k < p.2 → ga V 98 (16 * L + 4 + k) = T (p.1 + 4 + k) - 48
def LnOk (T : Nat → Int32) (V V' : ai_V) (n L a : Nat) : Nat ⊕ Nat → Prop
  | .inl w => (MT V' n 76 (a + 4 + w) ∨ (gi V' 89 19 = on (a + 4 + w) ∧ a + 4 + w < min n 76 ∧ btw (T (a + 4 + w)) 48 57)) ∧ lD T V' L (a, w) ∧ ∀ j, j < 16 * L → ga V' 98 j = ga V 98 j
  | .inr p => gi V' 89 19 = on p
theorem D98 (V : ai_V) (y : Int32) (k : Nat) (x : Int32) : ∀ j, ga (sa (si V 89 18 y) 98 k x) 98 j = if j = k then x else ga V 98 j := by
  intro j
  rw [ga_sa, ga_si]
  by_cases e : j = k
  · rw [if_pos ⟨rfl, e⟩, if_pos e]
  · rw [if_neg (fun h => e h.2), if_neg e]
theorem M_one {V : ai_V} {T : Nat → Int32} {n L a : Nat} (hn : n ≤ 80) (hL : L < 6) (h : MT V n 76 a) (t : TX V T) (ha : a ≤ min n 76) : ∃ V', d_M_readOne (on (16 * L)) V = some V' ∧ LnOk T V V' n L a (lT T (min n 76) a) ∧ Fr wRo V V' := by
  have l76 : 76 < 100000 := by omega
  have i0 : ai_in (on (16 * L)) 96 := by rw [on_in (by omega)]; omega
  have i1 : ai_in (on (16 * L) + (1 : Int32)) 96 := by rw [on_s, on_in (by omega)]; omega
  have e2 : on (16 * L) + (2 : Int32) = on (16 * L + 2) := by rw [show (2 : Int32) = on 2 from rfl, on_add]
  have i2 : ai_in (on (16 * L) + (2 : Int32)) 96 := by rw [e2, on_in (by omega)]; omega
  have n0 : (on (16 * L)).toNatClampNeg = 16 * L := on_nn (by omega)
  have n1 : (on (16 * L) + (1 : Int32)).toNatClampNeg = 16 * L + 1 := by rw [on_s, on_nn (by omega)]
  have n2 : (on (16 * L) + (2 : Int32)).toNatClampNeg = 16 * L + 2 := by rw [e2, on_nn (by omega)]
  have R : d_M_readOne (on (16 * L)) V = (d_M_digit (0 : Int32) (5 : Int32) V).bind fun q7 => ((d_M_digit (1 : Int32) (9 : Int32) (sa q7.2 98 (16 * L) q7.1)).bind fun q8 => ((d_M_digit (1 : Int32) (9 : Int32) (sa q8.2 98 (16 * L + 1) q8.1)).bind fun q9 => ((d_M_need (58 : Int32) (sa q9.2 98 (16 * L + 2) q9.1)).bind fun q10 => (d_M_readOne_50 ai_N (on (16 * L)) (0 : Int32) q10)))) := by
    rw [d_M_readOne]
    simp only [if_pos i0, if_pos i1, if_pos i2, n0, n1, n2]
  -- behind a fault
  have bad4 : ∀ (W : ai_V) (p : Nat), p < 1000 → gi W 89 19 = on p → Fr wRo V W → ∃ V', d_M_readOne_50 ai_N (on (16 * L)) (0 : Int32) W = some V' ∧ gi V' 89 19 = on p ∧ Fr wRo V V' := by
    intro W p hp hg FW
    obtain ⟨V', e, g, F⟩ := ro_f 19999 hL hg (by omega) 0
    exact ⟨V', e, g, Fr.tr FW F rfl⟩
  have bad3 : ∀ (W : ai_V) (p : Nat), p < 1000 → gi W 89 19 = on p → Fr wRo V W → ∃ V', ((d_M_need (58 : Int32) W).bind fun q10 => (d_M_readOne_50 ai_N (on (16 * L)) (0 : Int32) q10)) = some V' ∧ gi V' 89 19 = on p ∧ Fr wRo V V' := by
    intro W p hp hg FW
    rw [need_f hg (by omega), bd_some]
    exact bad4 W p hp hg FW
  have bad2 : ∀ (W : ai_V) (p : Nat), p < 1000 → gi W 89 19 = on p → Fr wRo V W → ∃ V', ((d_M_digit (1 : Int32) (9 : Int32) W).bind fun q9 => ((d_M_need (58 : Int32) (sa q9.2 98 (16 * L + 2) q9.1)).bind fun q10 => (d_M_readOne_50 ai_N (on (16 * L)) (0 : Int32) q10))) = some V' ∧ gi V' 89 19 = on p ∧ Fr wRo V V' := by
    intro W p hp hg FW
    rw [digit_f hg (by omega), bd_some]
    exact bad3 (sa W 98 (16 * L + 2) 0) p hp (by rw [gi_sa]; exact hg) (Fr.sa FW rfl)
  have bad1 : ∀ (W : ai_V) (p : Nat), p < 1000 → gi W 89 19 = on p → Fr wRo V W → ∃ V', ((d_M_digit (1 : Int32) (9 : Int32) W).bind fun q8 => ((d_M_digit (1 : Int32) (9 : Int32) (sa q8.2 98 (16 * L + 1) q8.1)).bind fun q9 => ((d_M_need (58 : Int32) (sa q9.2 98 (16 * L + 2) q9.1)).bind fun q10 => (d_M_readOne_50 ai_N (on (16 * L)) (0 : Int32) q10)))) = some V' ∧ gi V' 89 19 = on p ∧ Fr wRo V V' := by
    intro W p hp hg FW
    rw [digit_f hg (by omega), bd_some]
    exact bad2 (sa W 98 (16 * L + 1) 0) p hp (by rw [gi_sa]; exact hg) (Fr.sa FW rfl)
  have m48 : ¬ btw (-1 : Int32) 48 53 := by decide
  have m49 : ¬ btw (-1 : Int32) 49 57 := by decide
  have fG : ∀ (W : ai_V) (j : Nat), gi (si W 89 19 (on j)) 89 19 = on j := fun W j => by rw [gi_si, if_pos ⟨rfl, rfl⟩]
  rw [R]
  have A1 : a < min n 76 → a < n ∧ a < 76 := fun _ => by omega
  have hV1 : ∀ x, MT (sa (si V 89 18 (on (a + 1))) 98 (16 * L) x) n 76 (a + 1) := fun x => (h.go (a + 1)).fr (w := ([], [98])) (Fr.sa Fr.rf rfl) rfl
  have FV1 : ∀ x, Fr wRo V (sa (si V 89 18 (on (a + 1))) 98 (16 * L) x) := fun x => Fr.sa (Fr.si Fr.rf rfl) rfl
  rcases lT_cases T (min n 76) a with ⟨c0, d⟩ | ⟨c0, c1, d⟩ | ⟨c0, c1, c2, d⟩ | ⟨c0, c1, c2, c3, d⟩ | ⟨c0, c1, c2, c3, c4, d⟩ | ⟨c0, c1, c2, c3, c4, d⟩ <;> rw [d]
  · rw [digit_n (a := 48) (b := 53) hn l76 (by omega) h t rfl rfl (fun x y hc => c0 ⟨by omega, hc⟩) m48, bd_some]
    exact bad1 (sa (si V 89 19 (on a)) 98 (16 * L) 0) a (by omega) (by rw [gi_sa]; exact fG V a) (Fr.sa (Fr.si Fr.rf rfl) rfl)
  all_goals
    rw [digit_y (a := 48) (b := 53) hn l76 h t (by omega) (by omega) rfl rfl c0.2 (by decide), bd_some]
    simp only
    have h1 := hV1 (T a - 48)
    have F1 := FV1 (T a - 48)
    have g1 := D98 V (on (a + 1)) (16 * L) (T a - 48)
    generalize sa (si V 89 18 (on (a + 1))) 98 (16 * L) (T a - 48) = V1 at h1 F1 g1
    have t1 : TX V1 T := t.fr F1 rfl
  · rw [digit_n (a := 49) (b := 57) hn l76 (by omega) h1 t1 rfl rfl (fun x y hc => c1 ⟨by omega, hc⟩) m49, bd_some]
    exact bad2 (sa (si V1 89 19 (on (a + 1))) 98 (16 * L + 1) 0) (a + 1) (by omega) (by rw [gi_sa]; exact fG V1 (a + 1)) (Fr.sa (Fr.si F1 rfl) rfl)
  all_goals
    rw [digit_y (a := 49) (b := 57) hn l76 h1 t1 (by omega) (by omega) rfl rfl c1.2 (by decide), bd_some]
    simp only
    have h2 : MT (sa (si V1 89 18 (on (a + 1 + 1))) 98 (16 * L + 1) (T (a + 1) - 48)) n 76 (a + 2) := (h1.go (a + 2)).fr (w := ([], [98])) (Fr.sa Fr.rf rfl) rfl
    have F2 : Fr wRo V (sa (si V1 89 18 (on (a + 1 + 1))) 98 (16 * L + 1) (T (a + 1) - 48)) := Fr.sa (Fr.si F1 rfl) rfl
    have g2 := D98 V1 (on (a + 1 + 1)) (16 * L + 1) (T (a + 1) - 48)
    generalize sa (si V1 89 18 (on (a + 1 + 1))) 98 (16 * L + 1) (T (a + 1) - 48) = V2 at h2 F2 g2
    have t2 : TX V2 T := t.fr F2 rfl
  · rw [digit_n (a := 49) (b := 57) hn l76 (by omega) h2 t2 rfl rfl (fun x y hc => c2 ⟨by omega, hc⟩) m49, bd_some]
    exact bad3 (sa (si V2 89 19 (on (a + 2))) 98 (16 * L + 2) 0) (a + 2) (by omega) (by rw [gi_sa]; exact fG V2 (a + 2)) (Fr.sa (Fr.si F2 rfl) rfl)
  all_goals
    rw [digit_y (a := 49) (b := 57) hn l76 h2 t2 (by omega) (by omega) rfl rfl c2.2 (by decide), bd_some]
    simp only
    have h3 : MT (sa (si V2 89 18 (on (a + 2 + 1))) 98 (16 * L + 2) (T (a + 2) - 48)) n 76 (a + 3) := (h2.go (a + 3)).fr (w := ([], [98])) (Fr.sa Fr.rf rfl) rfl
    have F3 : Fr wRo V (sa (si V2 89 18 (on (a + 2 + 1))) 98 (16 * L + 2) (T (a + 2) - 48)) := Fr.sa (Fr.si F2 rfl) rfl
    have g3 := D98 V2 (on (a + 2 + 1)) (16 * L + 2) (T (a + 2) - 48)
    generalize sa (si V2 89 18 (on (a + 2 + 1))) 98 (16 * L + 2) (T (a + 2) - 48) = V3 at h3 F3 g3
    have t3 : TX V3 T := t.fr F3 rfl
  · rw [need_n hn l76 (by omega) h3 t3 (fun x y hc => c3 ⟨by omega, hc⟩) (by decide), bd_some]
    exact bad4 (si V3 89 19 (on (a + 3))) (a + 3) (by omega) (fG V3 (a + 3)) (Fr.si F3 rfl)
  all_goals
    rw [need_y hn l76 h3 t3 (by omega) (by omega) c3.2, bd_some]
    have h4 : MT (si V3 89 18 (on (a + 3 + 1))) n 76 (a + 4) := h3.go (a + 4)
    have F4 : Fr wRo V (si V3 89 18 (on (a + 3 + 1))) := Fr.si F3 rfl
    have g4 : ∀ j, ga (si V3 89 18 (on (a + 3 + 1))) 98 j = ga V3 98 j := fun j => rfl
    generalize si V3 89 18 (on (a + 3 + 1)) = V4 at h4 F4 g4
    have t4 : TX V4 T := t.fr F4 rfl
    obtain ⟨V5, hE, hD, F5⟩ := ro_w (L := L) hn hL 12 0 (a + 4) ai_N V4 h4 t4 (by omega) (by omega) (N_gt (by omega))
    simp only [Nat.zero_add, Nat.add_zero] at hE hD
    have F05 : Fr wRo V V5 := Fr.tr F4 F5 rfl
  · rw [c4] at hE hD
    rcases hE with ⟨e1, e2, e3⟩ | ⟨e1, e2, e3, -⟩
    · refine ⟨sa (si V5 89 19 (on (a + 4))) 98 (16 * L + 3) 0, ?_, ?_, Fr.sa (Fr.si F05 rfl) rfl⟩
      · rw [show (0 : Int32) = on 0 from rfl, e1, d_M_readOne_121, if_neg (fun hn => hn rfl), fault_y e2.2.2.2.2, bd_some, e2.2.2.2.1, ro_133 hL]
      · show gi (sa (si V5 89 19 (on (a + 4))) 98 (16 * L + 3) 0) 89 19 = on (a + 4)
        rw [gi_sa, fG]
    · omega
  · have w12 := wcn_le T (min n 76) 12 (a + 4)
    generalize wcn T (min n 76) 12 (a + 4) = w at *
    have hw0 : ¬ on w = 0 := by rw [on_z (by omega)]; exact c4
    have hx : d_M_readOne_50 ai_N (on (16 * L)) 0 V4 = some (sa V5 98 (16 * L + 3) (on w)) := by
      have e1 : d_M_readOne_50 ai_N (on (16 * L)) (on 0) V4 = d_M_readOne_121 (on (16 * L)) (on w) V5 := by
        rcases hE with hE | hE
        · exact hE.1
        · exact hE.1
      rw [show (0 : Int32) = on 0 from rfl, e1, d_M_readOne_121, if_pos hw0, ro_133 hL]
    have D5 : ∀ j, ga (sa V5 98 (16 * L + 3) (on w)) 98 j = if j = 16 * L + 3 then on w else ga V5 98 j := by
      intro j
      rw [ga_sa]
      by_cases e : j = 16 * L + 3
      · rw [if_pos ⟨rfl, e⟩, if_pos e]
      · rw [if_neg (fun h => e h.2), if_neg e]
    refine ⟨_, hx, ⟨?_, ⟨?_, ?_, ?_, ?_, fun k hk => ?_⟩, fun j hj => ?_⟩, Fr.sa F05 rfl⟩
    · rcases hE with ⟨e1, e2, e3⟩ | ⟨e1, e2, e3, e4⟩
      · exact Or.inl (e2.fr (w := ([], [98])) (Fr.sa Fr.rf rfl) rfl)
      · exact Or.inr ⟨by rw [gi_sa]; exact e2, e4⟩
    · rw [D5, if_neg (by omega), hD, if_neg (by omega), g4, g3, if_neg (by omega), g2, if_neg (by omega), g1, if_pos rfl]
    · rw [D5, if_neg (by omega), hD, if_neg (by omega), g4, g3, if_neg (by omega), g2, if_pos rfl]
    · rw [D5, if_neg (by omega), hD, if_neg (by omega), g4, g3, if_pos rfl]
    · rw [D5, if_pos rfl]
    · have hk' : k < w := hk
      rw [D5, if_neg (by omega), hD, if_pos (by omega), show 16 * L + 4 + k - (16 * L + 4) = k by omega]
    · rw [D5, if_neg (by omega), hD, if_neg (by omega), g4, g3, if_neg (by omega), g2, if_neg (by omega), g1, if_neg (by omega)]
