/-! ===== house: the class takes the lines ===== -/
abbrev Ha : Type := (Nat → Int32) × (Nat → Int32) × (Nat → Int32) × (Nat → Int32) × (Nat → Int32)
def upa (g : Nat → Int32) (k : Nat) (x : Int32) : Nat → Int32 := fun i => if i = k then x else g i
theorem ga_upd (V : ai_V) (o k : Nat) (x : Int32) : ga (sa V o k x) o = upa (ga V o) k x := by
  funext i
  rw [ga_sa]
  unfold upa
  by_cases e : i = k
  · rw [if_pos ⟨rfl, e⟩, if_pos e]
  · rw [if_neg (fun h => e h.2), if_neg e]
def wUp (T : Nat → Int32) (m b w : Nat) (g : Nat → Int32) : Nat → Int32 := fun i => if 12 * m ≤ i ∧ i < 12 * m + w then T (b + (i - 12 * m)) - 48 else g i
theorem wUp_s (T : Nat → Int32) (m b w : Nat) (g : Nat → Int32) : upa (wUp T m b w g) (12 * m + w) (T (b + w) - 48) = wUp T m b (w + 1) g := by
  funext i
  unfold upa wUp
  by_cases e : i = 12 * m + w
  · rw [if_pos e, if_pos (by omega), e, show 12 * m + w - 12 * m = w by omega]
  · rw [if_neg e]
    by_cases c : 12 * m ≤ i ∧ i < 12 * m + w
    · rw [if_pos c, if_pos (by omega)]
    · rw [if_neg c, if_neg (by omega)]
theorem wUp_0 (T : Nat → Int32) (m b : Nat) (g : Nat → Int32) : wUp T m b 0 g = g := by
  funext i
  unfold wUp
  rw [if_neg (by omega)]
def ad1 (T : Nat → Int32) (m : Nat) (p : Nat × Nat) (A : Ha) : Ha := (upa A.1 m (T p.1 - 48), upa A.2.1 m (T (p.1 + 1) - 48), upa A.2.2.1 m (T (p.1 + 2) - 48), wUp T m (p.1 + 4) p.2 A.2.2.2.1, upa A.2.2.2.2 m (on p.2))
def adL (T : Nat → Int32) : Nat → List (Nat × Nat) → Ha → Ha
  | _, [], A => A
  | m, p :: l, A => adL T (m + 1) l (ad1 T m p A)
def cA (V : ai_V) (A : Ha) : Prop := ga V 4 = A.1 ∧ ga V 5 = A.2.1 ∧ ga V 6 = A.2.2.1 ∧ ga V 7 = A.2.2.2.1 ∧ ga V 8 = A.2.2.2.2
def mA (V : ai_V) (A : Ha) : Prop := ga V 91 = A.1 ∧ ga V 92 = A.2.1 ∧ ga V 93 = A.2.2.1 ∧ ga V 94 = A.2.2.2.1 ∧ ga V 95 = A.2.2.2.2
def AO (m : Nat) (A : Ha) : Prop := ∀ i, i < m → (0 ≤ (A.1 i).toInt ∧ (A.1 i).toInt ≤ 5) ∧ (1 ≤ (A.2.1 i).toInt ∧ (A.2.1 i).toInt ≤ 9) ∧ (1 ≤ (A.2.2.1 i).toInt ∧ (A.2.2.1 i).toInt ≤ 9) ∧ (1 ≤ (A.2.2.2.2 i).toInt ∧ (A.2.2.2.2 i).toInt ≤ 12) ∧ ∀ q, q < 12 → (0 ≤ (A.2.2.2.1 (12 * i + q)).toInt ∧ (A.2.2.2.1 (12 * i + q)).toInt ≤ 9)
def lineOk (T : Nat → Int32) (e : Nat) (p : Nat × Nat) : Prop := btw (T p.1) 48 53 ∧ btw (T (p.1 + 1)) 49 57 ∧ btw (T (p.1 + 2)) 49 57 ∧ T (p.1 + 3) = 58 ∧ 1 ≤ p.2 ∧ p.2 ≤ 12 ∧ (∀ j, j < p.2 → btw (T (p.1 + 4 + j)) 48 57) ∧ p.1 + 4 + p.2 ≤ e
theorem lT_ok {T : Nat → Int32} {e a w : Nat} (h : lT T e a = .inl w) : lineOk T e (a, w) := by
  rcases lT_cases T e a with ⟨c0, d⟩ | ⟨c0, c1, d⟩ | ⟨c0, c1, c2, d⟩ | ⟨c0, c1, c2, c3, d⟩ | ⟨c0, c1, c2, c3, c4, d⟩ | ⟨c0, c1, c2, c3, c4, d⟩ <;> rw [h] at d
  · cases d
  · cases d
  · cases d
  · cases d
  · cases d
  · have := Sum.inl.inj d
    subst this
    exact ⟨c0.2, c1.2, c2.2, c3.2, by show 1 ≤ wcn T e 12 (a + 4); omega, wcn_le T e 12 (a + 4), fun j hj => wcn_dig T e 12 (a + 4) j hj, wcn_end T e 12 (a + 4) (by omega)⟩
theorem sub48 {c a b : Int32} (h : btw c a b) {x y : Int} (ha : a.toInt = 48 + x) (hb : b.toInt = 48 + y) (hx : 0 ≤ x) (hy : y ≤ 9) : x ≤ (c - 48).toInt ∧ (c - 48).toInt ≤ y := by
  have h1 := ti_le.mp h.1
  have h2 := ti_le.mp h.2
  have e48 : (48 : Int32).toInt = 48 := rfl
  rw [ti_sub (by omega) (by omega)]
  omega
/-- what the wants of a line that is half read may be -/
theorem ad1_ok {T : Nat → Int32} {e m : Nat} {p : Nat × Nat} {A : Ha} (h : AO m A) (hz : ∀ q, q < 12 → (0 ≤ (A.2.2.2.1 (12 * m + q)).toInt ∧ (A.2.2.2.1 (12 * m + q)).toInt ≤ 9)) (ok : lineOk T e p) : AO (m + 1) (ad1 T m p A) := by
  obtain ⟨o1, o2, o3, o4, o5, o6, o7, o8⟩ := ok
  intro i hi
  by_cases e : i = m
  · subst e
    have u : ∀ (g : Nat → Int32) x, upa g i x i = x := fun g x => if_pos rfl
    refine ⟨?_, ?_, ?_, ?_, fun q hq => ?_⟩
    · show 0 ≤ (upa A.1 i (T p.1 - 48) i).toInt ∧ (upa A.1 i (T p.1 - 48) i).toInt ≤ 5
      rw [u]; exact sub48 o1 (x := 0) (y := 5) rfl rfl (by omega) (by omega)
    · show 1 ≤ (upa A.2.1 i (T (p.1 + 1) - 48) i).toInt ∧ (upa A.2.1 i (T (p.1 + 1) - 48) i).toInt ≤ 9
      rw [u]; exact sub48 o2 (x := 1) (y := 9) rfl rfl (by omega) (by omega)
    · show 1 ≤ (upa A.2.2.1 i (T (p.1 + 2) - 48) i).toInt ∧ (upa A.2.2.1 i (T (p.1 + 2) - 48) i).toInt ≤ 9
      rw [u]; exact sub48 o3 (x := 1) (y := 9) rfl rfl (by omega) (by omega)
    · show 1 ≤ (upa A.2.2.2.2 i (on p.2) i).toInt ∧ (upa A.2.2.2.2 i (on p.2) i).toInt ≤ 12
      rw [u, on_ti (by omega)]; omega
    · show 0 ≤ (wUp T i (p.1 + 4) p.2 A.2.2.2.1 (12 * i + q)).toInt ∧ (wUp T i (p.1 + 4) p.2 A.2.2.2.1 (12 * i + q)).toInt ≤ 9
      unfold wUp
      by_cases c : 12 * i ≤ 12 * i + q ∧ 12 * i + q < 12 * i + p.2
      · rw [if_pos c, show 12 * i + q - 12 * i = q by omega]
        exact sub48 (o7 q (by omega)) (x := 0) (y := 9) rfl rfl (by omega) (by omega)
      · rw [if_neg c]; exact hz q hq
  · have u : ∀ (g : Nat → Int32) x, upa g m x i = g i := fun g x => if_neg e
    obtain ⟨h1, h2, h3, h4, h5⟩ := h i (by omega)
    refine ⟨?_, ?_, ?_, ?_, fun q hq => ?_⟩
    · show 0 ≤ (upa A.1 m (T p.1 - 48) i).toInt ∧ (upa A.1 m (T p.1 - 48) i).toInt ≤ 5
      rw [u]; exact h1
    · show 1 ≤ (upa A.2.1 m (T (p.1 + 1) - 48) i).toInt ∧ (upa A.2.1 m (T (p.1 + 1) - 48) i).toInt ≤ 9
      rw [u]; exact h2
    · show 1 ≤ (upa A.2.2.1 m (T (p.1 + 2) - 48) i).toInt ∧ (upa A.2.2.1 m (T (p.1 + 2) - 48) i).toInt ≤ 9
      rw [u]; exact h3
    · show 1 ≤ (upa A.2.2.2.2 m (on p.2) i).toInt ∧ (upa A.2.2.2.2 m (on p.2) i).toInt ≤ 12
      rw [u]; exact h4
    · show 0 ≤ (wUp T m (p.1 + 4) p.2 A.2.2.2.1 (12 * i + q)).toInt ∧ (wUp T m (p.1 + 4) p.2 A.2.2.2.1 (12 * i + q)).toInt ≤ 9
      unfold wUp
      rw [if_neg (by omega)]; exact h5 q hq
