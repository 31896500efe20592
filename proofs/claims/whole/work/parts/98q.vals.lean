/-! ===== values: the text ===== -/
def vok (T : Nat → Int32) (k p : Nat) : Prop := (p % (k + 1) = k ∧ T p = 47) ∨ (p % (k + 1) ≠ k ∧ btw (T p) 48 57)
theorem n47 {c : Int32} (h : btw c 48 57) : ¬ c = 47 := fun e => by rw [e] at h; exact absurd h.1 (by decide)
/-- where the rest of a table of k fails, if it fails -/
def vR (T : Nat → Int32) (n k : Nat) : Nat → Nat → Option Nat
  | 0, p => some p
  | f + 1, p => if k * (k + 1) - 1 ≤ p then (if n ≤ p then none else some p) else if p < n ∧ ((p % (k + 1) = k ∧ T p = 47) ∨ (p % (k + 1) ≠ k ∧ btw (T p) 48 57)) then vR T n k f (p + 1) else some p
def vVal (k : Nat) : Option Nat → Int32
  | none => on k
  | some e => -1 - on e
theorem sz_59 {V : ai_V} {F : Int32 → Int32 → Int32 → Int32 → ai_V → Option Int32} {k i j p : Nat} {c : Int32} (hk : 0 < k) (hk4 : k ≤ 4) (hi : i < 10) (hj : j < 10) (hp : p < 1000) :
    (¬ (c = 47 ∧ j = k ∧ i < k - 1) → d_Worths_sizeOf_59 F (on k) (on i) (on j) (on p) c V = some (-1 - on p)) ∧
    ((c = 47 ∧ j = k ∧ i < k - 1) → d_Worths_sizeOf_59 F (on k) (on i) (on j) (on p) c V = F (on k) (on (i + 1)) (on 0) (on (p + 1)) V) := by
  have ek : on k - (1 : Int32) = on (k - 1) := by rw [show (1 : Int32) = on 1 from rfl, on_sub (by omega)]
  rw [d_Worths_sizeOf_59, if_pos (show ¬ on k = 0 by rw [on_z (by omega)]; omega), ek]
  refine ⟨fun h => ?_, fun h => ?_⟩
  · by_cases c7 : c = 47
    · rw [if_neg (fun hn => hn c7)]
      by_cases ej : j = k
      · rw [if_neg (fun hn => hn (by rw [ej])), if_pos (by rw [on_le (by omega) (by omega)]; have : ¬ i < k - 1 := fun hi => h ⟨c7, ej, hi⟩; omega)]; rfl
      · rw [if_pos (by rw [on_inj (by omega) (by omega)]; exact ej)]; rfl
    · rw [if_pos c7]; rfl
  · rw [if_neg (fun hn => hn h.1), if_neg (fun hn => hn (by rw [h.2.1])), if_neg (by rw [on_le (by omega) (by omega)]; omega), d_Worths_sizeOf_92, d_Worths_sizeOf_109, on_s, on_s, h.2.1]; rfl
theorem sz_36 {V : ai_V} {F : Int32 → Int32 → Int32 → Int32 → ai_V → Option Int32} {x2 x3 x6 : Int32} {j p s : Nat} (hj : j < 10) (hs : s < 10) :
    (btw x6 48 57 ∧ j < s → d_Worths_sizeOf_36 F x2 x3 (on j) (on p) x6 (on s) V = F x2 x3 (on (j + 1)) (on (p + 1)) V) ∧
    (¬ (btw x6 48 57 ∧ j < s) → d_Worths_sizeOf_36 F x2 x3 (on j) (on p) x6 (on s) V = d_Worths_sizeOf_59 F x2 x3 (on j) (on p) x6 V) := by
  rw [d_Worths_sizeOf_36]
  refine ⟨fun h => ?_, fun h => ?_⟩
  · rw [(dig_eq x6 V).1 h.1, bd_some, if_neg (by decide), if_neg (by rw [on_le (by omega) (by omega)]; omega), d_Worths_sizeOf_109, on_s, on_s]
  · by_cases a : btw x6 48 57
    · rw [(dig_eq x6 V).1 a, bd_some, if_neg (by decide), if_pos (by rw [on_le (by omega) (by omega)]; have : ¬ j < s := fun b => h ⟨a, b⟩; omega)]
    · rw [(dig_eq x6 V).2 a, bd_some, if_pos rfl]
theorem size_rest {V : ai_V} {n k : Nat} (hn : n ≤ 80) (h1 : gi V 1 1 = on n) (hk : k = 2 ∨ k = 3 ∨ k = 4) : ∀ (f i j p q : Nat), p = i * (k + 1) + j → i < k → j ≤ k → p ≤ n → n - p < f → n - p < q →
    d_Worths_sizeOf_10 q (on k) (on i) (on j) (on p) V = some (vVal k (vR (ga V 2) n k f p)) := by
  intro f
  induction f with
  | zero => intro i j p q _ _ _ _ h; omega
  | succ f ih =>
    intro i j p q hp hi hj hpn hf hq
    obtain ⟨q, rfl⟩ : ∃ q', q = q' + 1 := ⟨q - 1, by omega⟩
    have k4 : k ≤ 4 := by omega
    have k2 : 2 ≤ k := by omega
    have ek : on k - (1 : Int32) = on (k - 1) := by rw [show (1 : Int32) = on 1 from rfl, on_sub (by omega)]
    have hmod : p % (k + 1) = j := by
      rcases hk with rfl | rfl | rfl <;> omega
    have hlen : k * (k + 1) - 1 ≤ p ↔ (i = k - 1 ∧ j = k) := by
      rcases hk with rfl | rfl | rfl <;> omega
    by_cases e : n ≤ p
    · have hpe : p = n := by omega
      rw [d_Worths_sizeOf_10, h1, if_pos (by rw [on_le (by omega) (by omega)]; exact e), if_neg (by rw [show (0 : Int32) = on 0 from rfl, on_le (by omega) (by omega)]; omega), ek, d_Worths_sizeOf_136, h1, vR]
      by_cases c : i = k - 1 ∧ j = k
      · rw [if_neg (fun hn => hn (by rw [c.1])), if_neg (fun hn => hn (by rw [c.2])), if_pos (hlen.mpr c), if_pos e]; rfl
      · rw [if_neg (fun hl => c (hlen.mp hl)), if_neg (show ¬ (p < n ∧ ((p % (k + 1) = k ∧ ga V 2 p = 47) ∨ (p % (k + 1) ≠ k ∧ btw (ga V 2 p) 48 57))) from fun hc => by omega), hpe]
        have hv : vVal k (some n) = -1 - on n := rfl
        rw [hv]
        by_cases c1 : i = k - 1
        · rw [if_neg (fun hn => hn (by rw [c1])), if_pos (by rw [on_inj (by omega) (by omega)]; exact fun c2 => c ⟨c1, c2⟩)]
        · rw [if_pos (by rw [on_inj (by omega) (by omega)]; exact c1)]
    · have st : d_Worths_sizeOf_10 (q + 1) (on k) (on i) (on j) (on p) V = d_Worths_sizeOf_36 (d_Worths_sizeOf_10 q) (on k) (on i) (on j) (on p) (ga V 2 p) (on k) V := by
        rw [d_Worths_sizeOf_10, h1, if_neg (by rw [on_le (by omega) (by omega)]; exact e), at_y hn h1 (by omega), bd_some, if_pos (show ¬ on k = 0 by rw [on_z (by omega)]; omega)]
      rw [st, vR]
      by_cases c : btw (ga V 2 p) 48 57 ∧ j < k
      · rw [sz_36 (by omega) (by omega) |>.1 c, if_neg (fun hl => by have := hlen.mp hl; omega), if_pos ⟨by omega, Or.inr ⟨by omega, c.1⟩⟩]
        exact ih i (j + 1) (p + 1) q (by omega) hi (by omega) (by omega) (by omega) (by omega)
      · rw [sz_36 (by omega) (by omega) |>.2 c]
        by_cases g : ga V 2 p = 47 ∧ j = k ∧ i < k - 1
        · rw [(sz_59 (by omega) k4 (by omega) (by omega) (by omega)).2 g, if_neg (fun hl => by have := hlen.mp hl; omega), if_pos ⟨by omega, Or.inl ⟨by omega, g.1⟩⟩]
          refine ih (i + 1) 0 (p + 1) q ?_ (by omega) (by omega) (by omega) (by omega) (by omega)
          rcases hk with rfl | rfl | rfl <;> omega
        · rw [(sz_59 (by omega) k4 (by omega) (by omega) (by omega)).1 g]
          by_cases hl : k * (k + 1) - 1 ≤ p
          · rw [if_pos hl, if_neg e]; rfl
          · rw [if_neg hl, if_neg (fun hc => ?_)]
            · rfl
            · rcases hc.2 with ⟨u1, u2⟩ | ⟨u1, u2⟩
              · exact g ⟨u2, by omega, by have : ¬ (i = k - 1 ∧ j = k) := fun hh => hl (hlen.mpr hh); omega⟩
              · exact c ⟨u2, by omega⟩
