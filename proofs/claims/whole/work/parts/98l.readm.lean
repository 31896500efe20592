/-! ===== house: the model reads a line ===== -/
theorem digit_y {V : ai_V} {T : Nat → Int32} {n l i : Nat} {x y a b : Int32} (hn : n ≤ 80) (hl : l < 100000) (h : MT V n l i) (t : TX V T) (h1 : i < n) (h2 : i < l) (ea : (48 : Int32) + x = a) (eb : (48 : Int32) + y = b) (hc : btw (T i) a b) (hb : b ≤ 57) : d_M_digit x y V = some (T i - 48, si V 89 18 (on (i + 1))) := by
  have hg := h.go (i + 1)
  have hs : on (i + 1) - (1 : Int32) = on i := by rw [show (1 : Int32) = on 1 from rfl, on_sub (by omega)]; rfl
  have h57 := ti_le.mp (Int32.le_trans hc.2 hb)
  have e57 : (57 : Int32).toInt = 57 := rfl
  rw [d_M_digit, fine_y h.2.2.2.2, bd_some, if_pos (by decide), here_y hn hl h t h1 h2, bd_some, ea, eb, in_eq, bd_some, if_pos (by rw [tf_pos hc]; decide), h.2.2.2.1, on_s, hg.1, if_pos rfl, hg.2.2.2.1, hs, if_pos (by rw [on_in (by omega)]; omega), on_nn (by omega), ga_si, t.lo (by omega)]
theorem digit_n {V : ai_V} {T : Nat → Int32} {n l i : Nat} {x y a b : Int32} (hn : n ≤ 80) (hl : l < 100000) (hi : i < 100000) (h : MT V n l i) (t : TX V T) (ea : (48 : Int32) + x = a) (eb : (48 : Int32) + y = b) (h1 : i < n → i < l → ¬ btw (T i) a b) (hm : ¬ btw (-1) a b) : d_M_digit x y V = some (0, si V 89 19 (on i)) := by
  rw [d_M_digit, fine_y h.2.2.2.2, bd_some, if_pos (by decide)]
  by_cases e : i < n ∧ i < l
  · rw [here_y hn hl h t e.1 e.2, bd_some, ea, eb, in_eq, bd_some, if_neg (fun hn => hn (tf_neg (h1 e.1 e.2))), fault_y h.2.2.2.2, bd_some, h.2.2.2.1]
  · rw [here_n hn hl hi h (by omega), bd_some, ea, eb, in_eq, bd_some, if_neg (fun hn => hn (tf_neg hm)), fault_y h.2.2.2.2, bd_some, h.2.2.2.1]
theorem digit_f {V : ai_V} {p : Nat} (h : gi V 89 19 = on p) (hp : p < 2147483648) (x y : Int32) : d_M_digit x y V = some (0, V) := by
  rw [d_M_digit, fine_n h hp, bd_some, if_neg (fun hn => hn rfl)]
def wRo : Fw := ([(89, 18), (89, 19)], [98])
theorem ro_133 {V : ai_V} {L : Nat} (hL : L < 6) (x : Int32) : d_M_readOne_133 (on (16 * L)) x V = some (sa V 98 (16 * L + 3) x) := by
  rw [d_M_readOne_133, show (3 : Int32) = on 3 from rfl, on_add, if_pos (by rw [on_in (by omega)]; omega), on_nn (by omega)]
theorem ro_f {V : ai_V} {L p : Nat} (q : Nat) (hL : L < 6) (h : gi V 89 19 = on p) (hp : p < 2147483648) (k : Nat) : ∃ V', d_M_readOne_50 (q + 1) (on (16 * L)) (on k) V = some V' ∧ gi V' 89 19 = on p ∧ Fr wRo V V' := by
  refine ⟨sa V 98 (16 * L + 3) (on k), ?_, by rw [gi_sa]; exact h, Fr.sa Fr.rf rfl⟩
  rw [d_M_readOne_50, fine_n h hp, bd_some, if_pos rfl, d_M_readOne_121]
  by_cases e : on k = 0
  · rw [if_neg (fun hn => hn e), fault_n h hp, bd_some, ro_133 hL]
  · rw [if_pos e, ro_133 hL]
theorem TX.s {V : ai_V} {T : Nat → Int32} (h : TX V T) {w : Fw} {V' : ai_V} (s : Fr w V V') (hd : fw_a 96 w.2 = false) : TX V' T := h.fr s hd
/-- wants: k are read, c may come -/
theorem ro_w {T : Nat → Int32} {n L : Nat} (hn : n ≤ 80) (hL : L < 6) : ∀ (c k i q : Nat) (V : ai_V), MT V n 76 i → TX V T → k + c = 12 → i ≤ min n 76 → c + 2 < q →
    ∃ V', ((d_M_readOne_50 q (on (16 * L)) (on k) V = d_M_readOne_121 (on (16 * L)) (on (k + wcn T (min n 76) c i)) V' ∧ MT V' n 76 (i + wcn T (min n 76) c i) ∧ (k + wcn T (min n 76) c i = 12 → ¬ (i + wcn T (min n 76) c i < min n 76 ∧ btw (T (i + wcn T (min n 76) c i)) 48 57))) ∨
      (d_M_readOne_50 q (on (16 * L)) (on k) V = d_M_readOne_121 (on (16 * L)) (on (k + wcn T (min n 76) c i)) V' ∧ gi V' 89 19 = on (i + wcn T (min n 76) c i) ∧ k + wcn T (min n 76) c i = 12 ∧ (i + wcn T (min n 76) c i < min n 76 ∧ btw (T (i + wcn T (min n 76) c i)) 48 57))) ∧
      (∀ j, ga V' 98 j = if 16 * L + 4 + k ≤ j ∧ j < 16 * L + 4 + k + wcn T (min n 76) c i then T (i + (j - (16 * L + 4 + k))) - 48 else ga V 98 j) ∧ Fr wRo V V' := by
  intro c
  induction c with
  | zero =>
    intro k i q V h t hk hi hq
    obtain ⟨q, rfl⟩ : ∃ q', q = q' + 1 + 1 := ⟨q - 2, by omega⟩
    have hk12 : k = 12 := by omega
    subst hk12
    by_cases e : i < min n 76 ∧ btw (T i) 48 57
    · refine ⟨si V 89 19 (on i), Or.inr ⟨?_, by rw [gi_si, if_pos ⟨rfl, rfl⟩]; rfl, rfl, e⟩, fun j => by rw [if_neg (by show ¬ (_ ∧ j < 16 * L + 4 + 12 + 0); omega)]; rfl, Fr.si Fr.rf rfl⟩
      rw [d_M_readOne_50, fine_y h.2.2.2.2, bd_some, if_neg (by decide), here_y hn (by omega) h t (by omega) (by omega), bd_some, in_eq, bd_some, if_neg (by rw [tf_pos e.2]; decide), if_neg (fun hn => hn rfl), fault_y h.2.2.2.2, bd_some, h.2.2.2.1, d_M_readOne_50, fine_n (p := i) (by rw [gi_si, if_pos ⟨rfl, rfl⟩]) (by omega), bd_some, if_pos rfl]
      rfl
    · refine ⟨V, Or.inl ⟨?_, h, fun _ => e⟩, fun j => by rw [if_neg (by show ¬ (_ ∧ j < 16 * L + 4 + 12 + 0); omega)], Fr.rf⟩
      rw [d_M_readOne_50, fine_y h.2.2.2.2, bd_some, if_neg (by decide)]
      by_cases e2 : i < n ∧ i < 76
      · rw [here_y hn (by omega) h t e2.1 e2.2, bd_some, in_eq, bd_some, if_pos (tf_neg (fun hc => e ⟨by omega, hc⟩))]; rfl
      · rw [here_n hn (by omega) (by omega) h (by omega), bd_some, in_eq, bd_some, if_pos (tf_neg (by decide))]; rfl
  | succ c ih =>
    intro k i q V h t hk hi hq
    obtain ⟨q, rfl⟩ : ∃ q', q = q' + 1 := ⟨q - 1, by omega⟩
    rw [wcn]
    by_cases e : i < min n 76 ∧ btw (T i) 48 57
    · rw [if_pos e]
      have F1 : Fr wRo V (si (sa V 98 (16 * L + 4 + k) (T i - 48)) 89 18 (on (i + 1))) := Fr.si (Fr.sa Fr.rf rfl) rfl
      have h' : MT (si (sa V 98 (16 * L + 4 + k) (T i - 48)) 89 18 (on (i + 1))) n 76 (i + 1) := (h.fr (w := ([], [98])) (Fr.sa Fr.rf rfl) rfl).go (i + 1)
      have E : d_M_readOne_50 (q + 1) (on (16 * L)) (on k) V = d_M_readOne_50 q (on (16 * L)) (on (k + 1)) (si (sa V 98 (16 * L + 4 + k) (T i - 48)) 89 18 (on (i + 1))) := by
        rw [d_M_readOne_50, fine_y h.2.2.2.2, bd_some, if_neg (by decide), here_y hn (by omega) h t (by omega) (by omega), bd_some, in_eq, bd_some, if_neg (by rw [tf_pos e.2]; decide), if_pos (by rw [show (12 : Int32) = on 12 from rfl, on_inj (by omega) (by omega)]; omega), bd_some, show (4 : Int32) = on 4 from rfl, on_add, on_add, if_pos (by rw [on_in (by omega)]; omega), on_nn (by omega), gi_sa, h.2.2.2.1, on_s, on_s]
      obtain ⟨V', hV', hd', F'⟩ := ih (k + 1) (i + 1) q _ h' (t.fr F1 rfl) (by omega) (by omega) (by omega)
      rw [E]
      refine ⟨V', ?_, ?_, Fr.tr F1 F' rfl⟩
      · rw [show k + (wcn T (min n 76) c (i + 1) + 1) = k + 1 + wcn T (min n 76) c (i + 1) by omega, show i + (wcn T (min n 76) c (i + 1) + 1) = i + 1 + wcn T (min n 76) c (i + 1) by omega]
        exact hV'
      · intro j
        rw [hd' j, ga_si, ga_sa]
        by_cases c1 : 16 * L + 4 + (k + 1) ≤ j ∧ j < 16 * L + 4 + (k + 1) + wcn T (min n 76) c (i + 1)
        · rw [if_pos c1, if_pos (by omega), show i + 1 + (j - (16 * L + 4 + (k + 1))) = i + (j - (16 * L + 4 + k)) by omega]
        · rw [if_neg c1]
          by_cases c2 : j = 16 * L + 4 + k
          · rw [if_pos ⟨rfl, c2⟩, if_pos (by omega), c2, show 16 * L + 4 + k - (16 * L + 4 + k) = 0 by omega, Nat.add_zero]
          · rw [if_neg (fun hc => c2 hc.2), if_neg (by omega)]
    · rw [if_neg e]
      refine ⟨V, Or.inl ⟨?_, h, fun _ => e⟩, fun j => by rw [if_neg (by omega)], Fr.rf⟩
      rw [d_M_readOne_50, fine_y h.2.2.2.2, bd_some, if_neg (by decide)]
      by_cases e2 : i < n ∧ i < 76
      · rw [here_y hn (by omega) h t e2.1 e2.2, bd_some, in_eq, bd_some, if_pos (tf_neg (fun hc => e ⟨by omega, hc⟩))]; rfl
      · rw [here_n hn (by omega) (by omega) h (by omega), bd_some, in_eq, bd_some, if_pos (tf_neg (by decide))]; rfl
