/-! ===== reading a text ===== -/
/-- the model reads, and has found no fault -/
def MT (V : ai_V) (n l i : Nat) : Prop := gr V 89 15 = some 96 ∧ gi V 89 16 = on n ∧ gi V 89 17 = on l ∧ gi V 89 18 = on i ∧ gi V 89 19 = -1
/-- the letters of the text -/
def TX (V : ai_V) (T : Nat → Int32) : Prop := ∀ i, ga V 96 i = sx (T i) ∧ 0 ≤ (T i).toInt ∧ (T i).toInt ≤ 255
theorem sx_and : ∀ b, b < 256 → sx (on b) &&& 255 = on b := by decide +kernel
theorem sx_lo : ∀ b, b < 128 → sx (on b) = on b := by decide +kernel
theorem on_255 {x : Int32} (h0 : 0 ≤ x.toInt) (h1 : x.toInt ≤ 255) : ∃ b, b < 256 ∧ x = on b := by
  refine ⟨x.toNatClampNeg, ?_, (on_of (by rw [ti_le]; exact h0)).symm⟩
  have := ti_nn x
  omega
theorem TX.at {V : ai_V} {T : Nat → Int32} (h : TX V T) (i : Nat) : ga V 96 i &&& 255 = T i := by
  obtain ⟨h1, h2, h3⟩ := h i
  obtain ⟨b, hb, e⟩ := on_255 h2 h3
  rw [h1, e, sx_and b hb]
theorem TX.lo {V : ai_V} {T : Nat → Int32} (h : TX V T) {i : Nat} (hl : (T i).toInt ≤ 127) : ga V 96 i = T i := by
  obtain ⟨h1, h2, h3⟩ := h i
  obtain ⟨b, hb, e⟩ := on_255 h2 h3
  rw [e, on_ti (by omega)] at hl
  rw [h1, e, sx_lo b (by omega)]
theorem TX.fr {V V' : ai_V} {T : Nat → Int32} {w : Fw} (h : TX V T) (s : Fr w V V') (hd : fw_a 96 w.2 = false) : TX V' T := by
  unfold TX at *
  rw [s.ga 96 hd]; exact h
theorem MT.fr {V V' : ai_V} {n l i : Nat} {w : Fw} (h : MT V n l i) (s : Fr w V V') (hd : fw_dis ([(89, 15), (89, 16), (89, 17), (89, 18), (89, 19)], []) w = true) : MT V' n l i := by
  have t := Sm.of s hd
  unfold MT at *
  rw [t.r 89 15 rfl, t.i 89 16 rfl, t.i 89 17 rfl, t.i 89 18 rfl, t.i 89 19 rfl]; exact h
theorem MT.go {V : ai_V} {n l i : Nat} (h : MT V n l i) (j : Nat) : MT (si V 89 18 (on j)) n l j := by
  obtain ⟨h1, h2, h3, h4, h5⟩ := h
  refine ⟨by rw [gr_si]; exact h1, ?_, ?_, ?_, ?_⟩
  · rw [gi_si, if_neg (by decide)]; exact h2
  · rw [gi_si, if_neg (by decide)]; exact h3
  · rw [gi_si, if_pos ⟨rfl, rfl⟩]
  · rw [gi_si, if_neg (by decide)]; exact h5
theorem fine_y {V : ai_V} (h : gi V 89 19 = -1) : d_M_fine V = some 1 := by rw [d_M_fine, if_neg (fun hn => hn h)]
theorem fine_n {V : ai_V} {p : Nat} (h : gi V 89 19 = on p) (hp : p < 2147483648) : d_M_fine V = some 0 := by rw [d_M_fine, if_pos (by rw [h]; exact on_ne_m1 hp)]
theorem fault_y {V : ai_V} (h : gi V 89 19 = -1) (x : Int32) : d_M_fault x V = some (si V 89 19 x) := by rw [d_M_fault, fine_y h]; rfl
theorem fault_n {V : ai_V} {p : Nat} (h : gi V 89 19 = on p) (hp : p < 2147483648) (x : Int32) : d_M_fault x V = some V := by rw [d_M_fault, fine_n h hp]; rfl
theorem here_y {V : ai_V} {T : Nat → Int32} {n l i : Nat} (hn : n ≤ 80) (hl : l < 100000) (h : MT V n l i) (t : TX V T) (h1 : i < n) (h2 : i < l) : d_M_here V = some (T i) := by
  obtain ⟨a1, a2, a3, a4, a5⟩ := h
  rw [d_M_here, a2, a3, a4, if_neg (by rw [on_le (by omega) (by omega)]; omega), if_neg (by rw [on_le (by omega) (by omega)]; omega), if_pos a1, if_pos (by rw [on_in (by omega)]; omega), on_nn (by omega), t.at]
theorem here_n {V : ai_V} {n l i : Nat} (hn : n ≤ 80) (hl : l < 100000) (hi : i < 100000) (h : MT V n l i) (h1 : n ≤ i ∨ l ≤ i) : d_M_here V = some (-1) := by
  obtain ⟨a1, a2, a3, a4, a5⟩ := h
  rw [d_M_here, a2, a3, a4]
  by_cases e : n ≤ i
  · rw [if_pos (by rw [on_le (by omega) (by omega)]; exact e)]
  · rw [if_neg (by rw [on_le (by omega) (by omega)]; exact e), if_pos (by rw [on_le (by omega) (by omega)]; omega)]
theorem passes_y {V : ai_V} {T : Nat → Int32} {n l i : Nat} {c : Int32} (hn : n ≤ 80) (hl : l < 100000) (h : MT V n l i) (t : TX V T) (h1 : i < n) (h2 : i < l) (hc : T i = c) : d_M_passes c V = some (1, si V 89 18 (on (i + 1))) := by
  rw [d_M_passes, fine_y h.2.2.2.2, bd_some, if_neg (by decide), here_y hn hl h t h1 h2, bd_some, if_pos hc, h.2.2.2.1, on_s]
theorem passes_n {V : ai_V} {T : Nat → Int32} {n l i : Nat} {c : Int32} (hn : n ≤ 80) (hl : l < 100000) (hi : i < 100000) (h : MT V n l i) (t : TX V T) (h1 : i < n → i < l → ¬ T i = c) (hc : ¬ (-1 : Int32) = c) : d_M_passes c V = some (0, V) := by
  rw [d_M_passes, fine_y h.2.2.2.2, bd_some, if_neg (by decide)]
  by_cases e : i < n ∧ i < l
  · rw [here_y hn hl h t e.1 e.2, bd_some, if_neg (h1 e.1 e.2)]
  · rw [here_n hn hl hi h (by omega), bd_some, if_neg hc]
theorem passes_f {V : ai_V} {p : Nat} (h : gi V 89 19 = on p) (hp : p < 2147483648) (c : Int32) : d_M_passes c V = some (0, V) := by
  rw [d_M_passes, fine_n h hp]; rfl
theorem need_y {V : ai_V} {T : Nat → Int32} {n l i : Nat} {c : Int32} (hn : n ≤ 80) (hl : l < 100000) (h : MT V n l i) (t : TX V T) (h1 : i < n) (h2 : i < l) (hc : T i = c) : d_M_need c V = some (si V 89 18 (on (i + 1))) := by
  rw [d_M_need, passes_y hn hl h t h1 h2 hc, bd_some, if_pos (show ¬ (1 : Int32) = 0 by decide)]
theorem need_n {V : ai_V} {T : Nat → Int32} {n l i : Nat} {c : Int32} (hn : n ≤ 80) (hl : l < 100000) (hi : i < 100000) (h : MT V n l i) (t : TX V T) (h1 : i < n → i < l → ¬ T i = c) (hc : ¬ (-1 : Int32) = c) : d_M_need c V = some (si V 89 19 (on i)) := by
  rw [d_M_need, passes_n hn hl hi h t h1 hc, bd_some, if_neg (fun hn => hn rfl), fault_y h.2.2.2.2, bd_some, h.2.2.2.1]
theorem need_f {V : ai_V} {p : Nat} (h : gi V 89 19 = on p) (hp : p < 2147483648) (c : Int32) : d_M_need c V = some V := by
  rw [d_M_need, passes_f h hp, bd_some, if_neg (fun hn => hn rfl), fault_n h hp]; rfl
abbrev isL (c : Int32) : Prop := 97 ≤ c ∧ c ≤ 102
/-- which lodger a letter is -/
def lt (c : Int32) : Nat := (c - 97).toNatClampNeg
theorem lt_on {c : Int32} (h : isL c) : c - 97 = on (lt c) ∧ lt c < 6 ∧ c.toInt ≤ 102 ∧ 97 ≤ c.toInt := by
  have h1 := ti_le.mp h.1
  have h2 := ti_le.mp h.2
  have e1 : (97 : Int32).toInt = 97 := rfl
  have e2 : (102 : Int32).toInt = 102 := rfl
  have e3 : (c - 97).toInt = c.toInt - 97 := by rw [ti_sub (by omega) (by omega), e1]
  refine ⟨(on_of (by rw [ti_le, e3]; show (0 : Int) ≤ _; omega)).symm, ?_, by omega, by omega⟩
  have := ti_nn (c - 97)
  unfold lt
  omega
theorem lt_inj {c d : Int32} (hc : isL c) (hd : isL d) (h : lt c = lt d) : c = d := by
  have a := (lt_on hc).1
  have b := (lt_on hd).1
  rw [h, ← b] at a
  have := congrArg (· + (97 : Int32)) a
  simpa [Int32.sub_add_cancel] using this
theorem letter_y {V : ai_V} {T : Nat → Int32} {n l i : Nat} (hn : n ≤ 80) (hl : l < 100000) (h : MT V n l i) (t : TX V T) (h1 : i < n) (h2 : i < l) (hc : isL (T i)) : d_M_letter V = some (on (lt (T i)), si V 89 18 (on (i + 1))) := by
  have hg := h.go (i + 1)
  have hs : on (i + 1) - (1 : Int32) = on i := by rw [show (1 : Int32) = on 1 from rfl, on_sub (by omega)]; rfl
  rw [d_M_letter, fine_y h.2.2.2.2, bd_some, if_pos (by decide), here_y hn hl h t h1 h2, bd_some, in_eq, bd_some, if_pos (by rw [tf_pos hc]; decide), h.2.2.2.1, on_s, hg.1, if_pos rfl, hg.2.2.2.1, hs, if_pos (by rw [on_in (by omega)]; omega), on_nn (by omega), ga_si, t.lo (by have := (lt_on hc).2.2.1; omega), (lt_on hc).1]
theorem letter_n {V : ai_V} {T : Nat → Int32} {n l i : Nat} (hn : n ≤ 80) (hl : l < 100000) (hi : i < 100000) (h : MT V n l i) (t : TX V T) (h1 : i < n → i < l → ¬ isL (T i)) : d_M_letter V = some (0, si V 89 19 (on i)) := by
  rw [d_M_letter, fine_y h.2.2.2.2, bd_some, if_pos (by decide)]
  by_cases e : i < n ∧ i < l
  · rw [here_y hn hl h t e.1 e.2, bd_some, in_eq, bd_some, if_neg (fun hn => hn (tf_neg (h1 e.1 e.2))), fault_y h.2.2.2.2, bd_some, h.2.2.2.1]
  · rw [here_n hn hl hi h (by omega), bd_some, in_eq, bd_some, if_neg (fun hn => hn (tf_neg (by decide))), fault_y h.2.2.2.2, bd_some, h.2.2.2.1]
theorem letter_f {V : ai_V} {p : Nat} (h : gi V 89 19 = on p) (hp : p < 2147483648) : d_M_letter V = some (0, V) := by
  rw [d_M_letter, fine_n h hp, bd_some, if_neg (fun hn => hn rfl)]
/-! the class's text -/
theorem at_y {V : ai_V} {n i : Nat} (hn : n ≤ 80) (h : gi V 1 1 = on n) (hi : i < n) : d_Text_at (on i) V = some (ga V 2 i) := by
  rw [d_Text_at, if_neg (by rw [on_n0 (by omega)]; exact id), h, if_neg (by rw [on_le (by omega) (by omega)]; omega), if_pos (by rw [on_in (by omega)]; omega), on_nn (by omega)]
theorem at_n {V : ai_V} {n i : Nat} (hn : n ≤ 80) (h : gi V 1 1 = on n) (hi : n ≤ i) (h2 : i < 100000) : d_Text_at (on i) V = some (-1) := by
  rw [d_Text_at, if_neg (by rw [on_n0 (by omega)]; exact id), h, if_pos (by rw [on_le (by omega) (by omega)]; exact hi)]
