/-! ===== a day's text ===== -/
/-- one turn of a day: who treads and what comes after it, or where it fails -/
def dT (T : Nat → Int32) (e i : Nat) : (List Nat × Nat) ⊕ Nat :=
  if T i = 46 then .inl ([], i + 1) else if T i = 91 then
    (if i + 1 < e ∧ isL (T (i + 1)) then
      (if i + 2 < e ∧ isL (T (i + 2)) ∧ T (i + 2) ≠ T (i + 1) then
        (if i + 3 < e ∧ T (i + 3) = 93 then .inl ([lt (T (i + 1)), lt (T (i + 2))], i + 4) else .inr (i + 3))
      else .inr (i + 2))
    else .inr (i + 1))
  else if isL (T i) then .inl ([lt (T i)], i + 1) else .inr i
def dayP (T : Nat → Int32) (e : Nat) : Nat → Nat → List (List Nat) ⊕ Nat
  | 0, i => .inr i
  | k + 1, i => if e ≤ i then .inl [] else match dT T e i with
    | .inr p => .inr p
    | .inl (t, j) => match dayP T e k j with
      | .inr p => .inr p
      | .inl l => .inl (t :: l)
theorem dayP_end (T : Nat → Int32) {e i : Nat} (k : Nat) (h : e ≤ i) : dayP T e (k + 1) i = .inl [] := by rw [dayP, if_pos h]
theorem dayP_bad {T : Nat → Int32} {e i p : Nat} (k : Nat) (h : i < e) (d : dT T e i = .inr p) : dayP T e (k + 1) i = .inr p := by rw [dayP, if_neg (by omega), d]
theorem dayP_go {T : Nat → Int32} {e i j : Nat} {t : List Nat} (k : Nat) (h : i < e) (d : dT T e i = .inl (t, j)) : dayP T e (k + 1) i = match dayP T e k j with | .inr p => .inr p | .inl l => .inl (t :: l) := by rw [dayP, if_neg (by omega), d]
/-- what one turn can be -/
theorem dT_cases (T : Nat → Int32) {e i : Nat} (h : i < e) :
    (T i = 46 ∧ dT T e i = .inl ([], i + 1)) ∨
    (T i = 91 ∧ ¬ (i + 1 < e ∧ isL (T (i + 1))) ∧ dT T e i = .inr (i + 1)) ∨
    (T i = 91 ∧ (i + 1 < e ∧ isL (T (i + 1))) ∧ ¬ (i + 2 < e ∧ isL (T (i + 2)) ∧ T (i + 2) ≠ T (i + 1)) ∧ dT T e i = .inr (i + 2)) ∨
    (T i = 91 ∧ (i + 1 < e ∧ isL (T (i + 1))) ∧ (i + 2 < e ∧ isL (T (i + 2)) ∧ T (i + 2) ≠ T (i + 1)) ∧ ¬ (i + 3 < e ∧ T (i + 3) = 93) ∧ dT T e i = .inr (i + 3)) ∨
    (T i = 91 ∧ (i + 1 < e ∧ isL (T (i + 1))) ∧ (i + 2 < e ∧ isL (T (i + 2)) ∧ T (i + 2) ≠ T (i + 1)) ∧ (i + 3 < e ∧ T (i + 3) = 93) ∧ dT T e i = .inl ([lt (T (i + 1)), lt (T (i + 2))], i + 4)) ∨
    (isL (T i) ∧ dT T e i = .inl ([lt (T i)], i + 1)) ∨
    (¬ T i = 46 ∧ ¬ T i = 91 ∧ ¬ isL (T i) ∧ dT T e i = .inr i) := by
  unfold dT
  by_cases a : T i = 46
  · exact Or.inl ⟨a, if_pos a⟩
  · refine Or.inr ?_
    rw [if_neg a]
    by_cases b : T i = 91
    · rw [if_pos b]
      by_cases c1 : i + 1 < e ∧ isL (T (i + 1))
      · rw [if_pos c1]
        by_cases c2 : i + 2 < e ∧ isL (T (i + 2)) ∧ T (i + 2) ≠ T (i + 1)
        · rw [if_pos c2]
          by_cases c3 : i + 3 < e ∧ T (i + 3) = 93
          · rw [if_pos c3]; exact Or.inr (Or.inr (Or.inr (Or.inl ⟨b, c1, c2, c3, rfl⟩)))
          · rw [if_neg c3]; exact Or.inr (Or.inr (Or.inl ⟨b, c1, c2, c3, rfl⟩))
        · rw [if_neg c2]; exact Or.inr (Or.inl ⟨b, c1, c2, rfl⟩)
      · rw [if_neg c1]; exact Or.inl ⟨b, c1, rfl⟩
    · rw [if_neg b]
      by_cases c : isL (T i)
      · rw [if_pos c]; exact Or.inr (Or.inr (Or.inr (Or.inr (Or.inl ⟨c, rfl⟩))))
      · rw [if_neg c]; exact Or.inr (Or.inr (Or.inr (Or.inr (Or.inr ⟨a, b, c, rfl⟩))))
/-! the class looks for a fault -/
def fS (T : Nat → Int32) (s i : Nat) : Option Nat :=
  if s = 0 then (if isL (T i) ∨ T i = 46 then some 0 else if T i = 91 then some 1 else none)
  else if s = 1 then (if isL (T i) then some 2 else none)
  else if s = 2 then (if isL (T i) ∧ T i ≠ T (i - 1) then some 3 else none)
  else (if T i = 93 then some 0 else none)
theorem fault_step {V : ai_V} {n e s i : Nat} (q : Nat) (hn : n ≤ 80) (h1 : gi V 1 1 = on n) (he : e ≤ n) (hi : i < e) (hs : s < 4) (hs2 : 2 ≤ s → 1 ≤ i) :
    d_X_faultOfDay_17 (q + 1) (on e) (on s) (on i) V = match fS (ga V 2) s i with | some s' => d_X_faultOfDay_17 q (on e) (on s') (on (i + 1)) V | none => some (on i) := by
  have R : ∀ b : Int32, d_X_faultOfDay_139 (d_X_faultOfDay_17 q) (on e) (on s) (on i) (ga V 2 i) b V = if b = 0 then some (on i) else if 0 < s ∨ ga V 2 i = 91 then d_X_faultOfDay_17 q (on e) (on ((s + 1) % 4)) (on (i + 1)) V else d_X_faultOfDay_17 q (on e) (on s) (on (i + 1)) V := by
    intro b
    have hm : (on s + (1 : Int32)) - (on s + (1 : Int32)) / (4 : Int32) * (4 : Int32) = on ((s + 1) % 4) := by rw [on_s, show (4 : Int32) = on 4 from rfl, on_mod (by omega) (by omega)]
    rw [d_X_faultOfDay_139]
    by_cases eb : b = 0
    · rw [if_neg (fun hn => hn eb), if_pos eb]
    · rw [if_pos eb, if_neg eb]
      by_cases e0 : 0 < s
      · rw [if_pos (by rw [show (0 : Int32) = on 0 from rfl, on_lt (by omega) (by omega)]; exact e0), if_pos (Or.inl e0), d_X_faultOfDay_159, d_X_faultOfDay_165, hm, on_s]
      · rw [if_neg (by rw [show (0 : Int32) = on 0 from rfl, on_lt (by omega) (by omega)]; exact e0)]
        by_cases e9 : ga V 2 i = 91
        · rw [if_neg (fun hn => hn e9), if_pos (Or.inr e9), d_X_faultOfDay_159, d_X_faultOfDay_165, hm, on_s]
        · rw [if_pos e9, if_neg (by rintro (a | a); exact e0 a; exact e9 a), d_X_faultOfDay_165, on_s]
  have R0 : d_X_faultOfDay_139 (d_X_faultOfDay_17 q) (on e) (on s) (on i) (ga V 2 i) 0 V = some (on i) := by rw [R, if_pos rfl]
  have R1 : d_X_faultOfDay_139 (d_X_faultOfDay_17 q) (on e) (on s) (on i) (ga V 2 i) 1 V = if 0 < s ∨ ga V 2 i = 91 then d_X_faultOfDay_17 q (on e) (on ((s + 1) % 4)) (on (i + 1)) V else d_X_faultOfDay_17 q (on e) (on s) (on (i + 1)) V := by rw [R, if_neg (by decide)]
  have A : d_X_faultOfDay_17 (q + 1) (on e) (on s) (on i) V = d_X_faultOfDay_51 (d_X_faultOfDay_17 q) (on e) (on s) (on i) (ga V 2 i) (tf (isL (ga V 2 i))) V := by
    rw [d_X_faultOfDay_17, if_neg (by rw [on_le (by omega) (by omega)]; omega), at_y hn h1 (by omega), bd_some]
    by_cases a : ga V 2 i < 97
    · rw [if_pos a, tf_neg (fun hc => absurd hc.1 (nle.mpr a))]; rfl
    · rw [if_neg a]
      by_cases b : (102 : Int32) < ga V 2 i
      · rw [if_pos b, tf_neg (fun hc => absurd hc.2 (nle.mpr b))]; rfl
      · rw [if_neg b, tf_pos ⟨nlt.mp a, nlt.mp b⟩]
  rw [A, d_X_faultOfDay_51]
  rcases (show s = 0 ∨ s = 1 ∨ s = 2 ∨ s = 3 by omega) with e0 | e0 | e0 | e0 <;> subst e0
  · rw [if_neg (fun hn => hn rfl)]
    have f0 : fS (ga V 2) 0 i = if isL (ga V 2 i) ∨ ga V 2 i = 46 then some 0 else if ga V 2 i = 91 then some 1 else none := rfl
    rw [f0]
    by_cases l : isL (ga V 2 i)
    · have n91 : ¬ ga V 2 i = 91 := fun h => by rw [h] at l; exact absurd l.1 (by decide)
      rw [if_pos (by rw [tf_pos l]; decide), if_pos (Or.inl l), d_X_faultOfDay_76, R1, if_neg (by rintro (a | a); omega; exact n91 a)]
    · rw [if_neg (fun hn => hn (tf_neg l))]
      by_cases d : ga V 2 i = 46
      · rw [if_pos d, if_pos (Or.inr d), d_X_faultOfDay_76, R1, if_neg (by rintro (a | a); omega; rw [d] at a; exact absurd a (by decide))]
      · have nd : ¬ (isL (ga V 2 i) ∨ ga V 2 i = 46) := by rintro (a | a); exact l a; exact d a
        rw [if_neg d, if_neg nd]
        by_cases g : ga V 2 i = 91
        · rw [if_neg (fun hn => hn g), if_pos g, d_X_faultOfDay_76, R1, if_pos (Or.inr g)]
        · rw [if_pos g, if_neg g, R0]
  · rw [if_pos (by decide), if_neg (fun hn => hn rfl)]
    have f0 : fS (ga V 2) 1 i = if isL (ga V 2 i) then some 2 else none := rfl
    rw [f0]
    by_cases l : isL (ga V 2 i)
    · rw [tf_pos l, if_pos l, R1, if_pos (Or.inl (by omega))]
    · rw [tf_neg l, if_neg l, R0]
  · rw [if_pos (by decide), if_pos (by decide), if_neg (fun hn => hn rfl)]
    have f0 : fS (ga V 2) 2 i = if isL (ga V 2 i) ∧ ga V 2 i ≠ ga V 2 (i - 1) then some 3 else none := rfl
    have hs1 : on i - (1 : Int32) = on (i - 1) := by rw [show (1 : Int32) = on 1 from rfl, on_sub (hs2 (by omega))]
    rw [f0]
    by_cases l : isL (ga V 2 i)
    · rw [if_neg (by rw [tf_pos l]; decide), hs1, at_y hn h1 (by omega), bd_some]
      by_cases d : ga V 2 i = ga V 2 (i - 1)
      · rw [if_pos d, if_neg (fun hc => hc.2 d), d_X_faultOfDay_123, R0]
      · rw [if_neg d, if_pos ⟨l, d⟩, R1, if_pos (Or.inl (by omega))]
    · rw [if_pos (tf_neg l), if_neg (fun hc => l hc.1), d_X_faultOfDay_123, R0]
  · rw [if_pos (by decide), if_pos (by decide), if_pos (by decide)]
    have f0 : fS (ga V 2) 3 i = if ga V 2 i = 93 then some 0 else none := rfl
    rw [f0]
    by_cases l : ga V 2 i = 93
    · rw [if_neg (fun hn => hn l), if_pos l, R1, if_pos (Or.inl (by omega))]
    · rw [if_pos l, if_neg l, R0]
theorem fault_end {V : ai_V} {n s : Nat} (q : Nat) (hn : n ≤ 80) (h1 : gi V 1 1 = on n) (hs : s < 4) :
    d_X_faultOfDay_17 (q + 1) (on (min n 48)) (on s) (on (min n 48)) V = some (if n ≤ 48 then (if s = 0 then -1 else on n) else on 48) := by
  rw [d_X_faultOfDay_17, if_pos (Int32.le_refl _), h1, show (48 : Int32) = on 48 from rfl]
  by_cases e : n ≤ 48
  · rw [if_pos (by rw [on_le (by omega) (by omega)]; exact e), if_pos e, show min n 48 = n by omega]
    by_cases e0 : s = 0
    · rw [if_neg (fun hn => hn (by rw [e0]; rfl)), if_pos e0]
    · rw [if_pos (by rw [on_z (by omega)]; exact e0), if_neg e0]
  · rw [if_neg (by rw [on_le (by omega) (by omega)]; exact e), if_neg e]
def dayV (n : Nat) : List (List Nat) ⊕ Nat → List (List Nat) ⊕ Nat
  | .inr p => .inr p
  | .inl l => if n ≤ 48 then .inl l else .inr 48
def dayF : List (List Nat) ⊕ Nat → Int32
  | .inr p => on p
  | .inl _ => -1
theorem dayV_y {n : Nat} (h : n ≤ 48) (l : List (List Nat)) : dayV n (.inl l) = .inl l := if_pos h
theorem dayV_n {n : Nat} (h : ¬ n ≤ 48) (l : List (List Nat)) : dayV n (.inl l) = .inr 48 := if_neg h
theorem fault_eq {V : ai_V} {n : Nat} (hn : n ≤ 80) (h1 : gi V 1 1 = on n) : ∀ (k i q : Nat), min n 48 - i < k → min n 48 - i < q → i ≤ min n 48 →
    d_X_faultOfDay_17 q (on (min n 48)) (on 0) (on i) V = some (dayF (dayV n (dayP (ga V 2) (min n 48) k i))) := by
  intro k
  induction k with
  | zero => intro i q h; omega
  | succ k ih =>
    intro i q hk hq hi
    by_cases e : min n 48 ≤ i
    · have : i = min n 48 := by omega
      subst this
      obtain ⟨q, rfl⟩ : ∃ q', q = q' + 1 := ⟨q - 1, by omega⟩
      rw [fault_end q hn h1 (by omega), dayP_end _ _ (Nat.le_refl _)]
      by_cases e2 : n ≤ 48
      · rw [if_pos e2, dayV_y e2, if_pos rfl]; rfl
      · rw [if_neg e2, dayV_n e2]; rfl
    · have hil : i < min n 48 := by omega
      -- the machine from state s at j: stops at p
      have stop : ∀ (s j r : Nat), s < 4 → (2 ≤ s → 1 ≤ j) → j ≤ min n 48 → 0 < s ∨ j < min n 48 → (j < min n 48 → fS (ga V 2) s j = none) → d_X_faultOfDay_17 (r + 1) (on (min n 48)) (on s) (on j) V = some (on j) := by
        intro s j r hs hs2 hj h0 hf
        by_cases ej : j < min n 48
        · rw [fault_step r hn h1 (by omega) ej hs hs2, hf ej]
        · have : j = min n 48 := by omega
          subst this
          rw [fault_end r hn h1 hs]
          by_cases e2 : n ≤ 48
          · rw [if_pos e2, if_neg (by omega), show min n 48 = n by omega]
          · rw [if_neg e2, show min n 48 = 48 by omega]
      have bad : ∀ p, dT (ga V 2) (min n 48) i = .inr p → some (dayF (dayV n (dayP (ga V 2) (min n 48) (k + 1) i))) = some (on p) := by
        intro p hp
        rw [dayP_bad k hil hp]; rfl
      have good : ∀ t j, i < j → j ≤ min n 48 → dT (ga V 2) (min n 48) i = .inl (t, j) → ∀ r, min n 48 - j < r → d_X_faultOfDay_17 r (on (min n 48)) (on 0) (on j) V = some (dayF (dayV n (dayP (ga V 2) (min n 48) (k + 1) i))) := by
        intro t j hij hj hp r hr
        rw [ih j r (by omega) hr hj, dayP_go k hil hp]
        cases dayP (ga V 2) (min n 48) k j with
        | inr p => rfl
        | inl l =>
          show some (dayF (dayV n (.inl l))) = some (dayF (dayV n (.inl (t :: l))))
          by_cases e2 : n ≤ 48
          · rw [dayV_y e2, dayV_y e2]; rfl
          · rw [dayV_n e2, dayV_n e2]
      obtain ⟨q, rfl⟩ : ∃ q', q = q' + 1 := ⟨q - 1, by omega⟩
      rcases dT_cases (ga V 2) hil with ⟨c1, d⟩ | ⟨c1, c2, d⟩ | ⟨c1, c2, c3, d⟩ | ⟨c1, c2, c3, c4, d⟩ | ⟨c1, c2, c3, c4, d⟩ | ⟨c1, d⟩ | ⟨c1, c2, c3, d⟩
      · have f : fS (ga V 2) 0 i = some 0 := by rw [fS, if_pos rfl, if_pos (Or.inr c1)]
        rw [fault_step q hn h1 (by omega) hil (by omega) (by omega), f]
        exact good _ _ (by omega) (by omega) d q (by omega)
      · have f : fS (ga V 2) 0 i = some 1 := by rw [fS, if_pos rfl, c1]; rfl
        obtain ⟨q, rfl⟩ : ∃ q', q = q' + 1 := ⟨q - 1, by omega⟩
        rw [fault_step _ hn h1 (by omega) hil (by omega) (by omega), f, bad _ d]
        exact stop 1 (i + 1) q (by omega) (by omega) (by omega) (by omega) (fun hj => by rw [fS, if_neg (by decide), if_pos rfl, if_neg (fun hc => c2 ⟨hj, hc⟩)])
      · have f : fS (ga V 2) 0 i = some 1 := by rw [fS, if_pos rfl, c1]; rfl
        have f1 : fS (ga V 2) 1 (i + 1) = some 2 := by rw [fS, if_neg (by decide), if_pos rfl, if_pos c2.2]
        obtain ⟨q, rfl⟩ : ∃ q', q = q' + 1 + 1 := ⟨q - 2, by omega⟩
        rw [fault_step _ hn h1 (by omega) hil (by omega) (by omega), f, bad _ d]
        show d_X_faultOfDay_17 (q + 1 + 1) _ (on 1) (on (i + 1)) V = _
        rw [fault_step _ hn h1 (by omega) c2.1 (by omega) (by omega), f1]
        exact stop 2 (i + 2) q (by omega) (by omega) (by omega) (by omega) (fun hj => by rw [fS, if_neg (by decide), if_neg (by decide), if_pos rfl, show i + 2 - 1 = i + 1 from rfl, if_neg (fun hc => c3 ⟨hj, hc⟩)])
      · have f : fS (ga V 2) 0 i = some 1 := by rw [fS, if_pos rfl, c1]; rfl
        have f1 : fS (ga V 2) 1 (i + 1) = some 2 := by rw [fS, if_neg (by decide), if_pos rfl, if_pos c2.2]
        have f2 : fS (ga V 2) 2 (i + 2) = some 3 := by rw [fS, if_neg (by decide), if_neg (by decide), if_pos rfl, show i + 2 - 1 = i + 1 from rfl, if_pos c3.2]
        obtain ⟨q, rfl⟩ : ∃ q', q = q' + 1 + 1 + 1 := ⟨q - 3, by omega⟩
        rw [fault_step _ hn h1 (by omega) hil (by omega) (by omega), f, bad _ d]
        show d_X_faultOfDay_17 (q + 1 + 1 + 1) _ (on 1) (on (i + 1)) V = _
        rw [fault_step _ hn h1 (by omega) c2.1 (by omega) (by omega), f1]
        show d_X_faultOfDay_17 (q + 1 + 1) _ (on 2) (on (i + 2)) V = _
        rw [fault_step _ hn h1 (by omega) c3.1 (by omega) (by omega), f2]
        exact stop 3 (i + 3) q (by omega) (by omega) (by omega) (by omega) (fun hj => by rw [fS, if_neg (by decide), if_neg (by decide), if_neg (by decide), if_neg (fun hc => c4 ⟨hj, hc⟩)])
      · have f : fS (ga V 2) 0 i = some 1 := by rw [fS, if_pos rfl, c1]; rfl
        have f1 : fS (ga V 2) 1 (i + 1) = some 2 := by rw [fS, if_neg (by decide), if_pos rfl, if_pos c2.2]
        have f2 : fS (ga V 2) 2 (i + 2) = some 3 := by rw [fS, if_neg (by decide), if_neg (by decide), if_pos rfl, show i + 2 - 1 = i + 1 from rfl, if_pos c3.2]
        have f3 : fS (ga V 2) 3 (i + 3) = some 0 := by rw [fS, if_neg (by decide), if_neg (by decide), if_neg (by decide), if_pos c4.2]
        obtain ⟨q, rfl⟩ : ∃ q', q = q' + 1 + 1 + 1 := ⟨q - 3, by omega⟩
        rw [fault_step _ hn h1 (by omega) hil (by omega) (by omega), f]
        show d_X_faultOfDay_17 (q + 1 + 1 + 1) _ (on 1) (on (i + 1)) V = _
        rw [fault_step _ hn h1 (by omega) c2.1 (by omega) (by omega), f1]
        show d_X_faultOfDay_17 (q + 1 + 1) _ (on 2) (on (i + 2)) V = _
        rw [fault_step _ hn h1 (by omega) c3.1 (by omega) (by omega), f2]
        show d_X_faultOfDay_17 (q + 1) _ (on 3) (on (i + 3)) V = _
        rw [fault_step _ hn h1 (by omega) c4.1 (by omega) (by omega), f3]
        exact good _ _ (by omega) (by omega) d q (by omega)
      · have f : fS (ga V 2) 0 i = some 0 := by rw [fS, if_pos rfl, if_pos (Or.inl c1)]
        rw [fault_step q hn h1 (by omega) hil (by omega) (by omega), f]
        exact good _ _ (by omega) (by omega) d q (by omega)
      · rw [bad _ d]
        exact stop 0 i q (by omega) (by omega) (by omega) (by omega) (fun hj => by rw [fS, if_pos rfl, if_neg (by rintro (a | a); exact c3 a; exact c1 a), if_neg c2])
