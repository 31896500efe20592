/-! ===== numbers, loops ===== -/
def on (i : Nat) : Int32 := Int32.ofNat i
theorem on_def (i : Nat) : Int32.ofNat i = on i := rfl
theorem on_s (i : Nat) : on i + (1 : Int32) = on (i + 1) := (Int32.ofNat_add i 1).symm
theorem on_add (i j : Nat) : on i + on j = on (i + j) := (Int32.ofNat_add i j).symm
theorem on_mul (i j : Nat) : on i * on j = on (i * j) := (Int32.ofNat_mul i j).symm
theorem on_sub {i j : Nat} (h : j ≤ i) : on i - on j = on (i - j) := (Int32.ofNat_sub i j h).symm
theorem on_ti {i : Nat} (h : i < 2147483648) : (on i).toInt = i := Int32.toInt_ofNat_of_lt h
theorem on_le {i j : Nat} (hi : i < 2147483648) (hj : j < 2147483648) : (on i ≤ on j) = (i ≤ j) := propext (Int32.ofNat_le_iff_le hi hj)
theorem on_lt {i j : Nat} (hi : i < 2147483648) (hj : j < 2147483648) : (on i < on j) = (i < j) := propext (Int32.ofNat_lt_iff_lt hi hj)
theorem on_nn {i : Nat} (hi : i < 2147483648) : (on i).toNatClampNeg = i := Int32.toNatClampNeg_ofNat_of_lt hi
theorem on_inj {i j : Nat} (hi : i < 2147483648) (hj : j < 2147483648) : (on i = on j) = (i = j) := by
  refine propext ⟨fun h => ?_, fun h => h ▸ rfl⟩
  have := on_nn hi
  rw [h, on_nn hj] at this
  exact this.symm
theorem on_ge0 {i : Nat} (hi : i < 2147483648) : (0 : Int32) ≤ on i := by
  show on 0 ≤ on i
  rw [on_le (by omega) hi]; omega
theorem on_n0 {i : Nat} (hi : i < 2147483648) : (on i < (0 : Int32)) = False := by
  show (on i < on 0) = False
  rw [on_lt hi (by omega)]; simp
theorem on_in {i n : Nat} (hi : i < 2147483648) : ai_in (on i) n = (i < n) := by
  show (¬ (on i < (0 : Int32) ∨ n ≤ (on i).toNatClampNeg)) = _
  rw [on_n0 hi, on_nn hi]
  simp
theorem on_of {x : Int32} (h : 0 ≤ x) : on x.toNatClampNeg = x := Int32.ofNat_toNatClampNeg x h
theorem ti_lt {x y : Int32} : x < y ↔ x.toInt < y.toInt := Int32.lt_iff_toInt_lt
theorem ti_le {x y : Int32} : x ≤ y ↔ x.toInt ≤ y.toInt := Int32.le_iff_toInt_le
theorem ti_nn (x : Int32) : (x.toNatClampNeg : Int) = max x.toInt 0 := by
  show ((x.toInt.toNat : Nat) : Int) = _
  omega
theorem ti_add {x y : Int32} (h : -2147483648 ≤ x.toInt + y.toInt) (h' : x.toInt + y.toInt < 2147483648) : (x + y).toInt = x.toInt + y.toInt := by
  rw [Int32.toInt_add]
  exact Int.bmod_eq_of_le (by simpa using h) (by simpa using h')
theorem ti_sub {x y : Int32} (h : -2147483648 ≤ x.toInt - y.toInt) (h' : x.toInt - y.toInt < 2147483648) : (x - y).toInt = x.toInt - y.toInt := by
  rw [Int32.toInt_sub]
  exact Int.bmod_eq_of_le (by simpa using h) (by simpa using h')
theorem ti_mul {x y : Int32} (h : -2147483648 ≤ x.toInt * y.toInt) (h' : x.toInt * y.toInt < 2147483648) : (x * y).toInt = x.toInt * y.toInt := by
  rw [Int32.toInt_mul]
  exact Int.bmod_eq_of_le (by simpa using h) (by simpa using h')
theorem ti_neg {x : Int32} (h : -2147483648 < x.toInt) : (-x).toInt = -x.toInt := by
  rw [Int32.toInt_neg]
  have := x.toInt_lt
  exact Int.bmod_eq_of_le (by omega) (by omega)
theorem ti_eq {x y : Int32} : x = y ↔ x.toInt = y.toInt := Int32.toInt_inj.symm
theorem ti_lo (x : Int32) : -2147483648 ≤ x.toInt := x.le_toInt
theorem ti_hi (x : Int32) : x.toInt < 2147483648 := x.toInt_lt
/-- a loop, by what holds at its head; it ends in what comes behind -/
theorem loop_k {α β γ : Type} (L : Nat → α → Option β) (K : γ → Option β) (P : α → Prop) (Q : γ → Prop) (μ : α → Nat)
    (h : ∀ n a, P a → (∃ a', L (n + 1) a = L n a' ∧ P a' ∧ μ a' < μ a) ∨ (∃ c, L (n + 1) a = K c ∧ Q c)) :
    ∀ n a, P a → μ a < n → ∃ c, L n a = K c ∧ Q c := by
  intro n
  induction n with
  | zero => intro a _ hn; omega
  | succ n ih =>
    intro a hP hn
    rcases h n a hP with ⟨a', e, hP', hm⟩ | ⟨c, e, hQ⟩
    · obtain ⟨c, e', hQ⟩ := ih a' hP' (by omega)
      exact ⟨c, e.trans e', hQ⟩
    · exact ⟨c, e, hQ⟩
/-- a loop that counts i up to m and changes nothing but a -/
theorem loop_f {α β : Type} (L : Nat → α → Int32 → Option β) (g : Nat → α → α) (fin : α → Option β) (m : Nat)
    (hs : ∀ n a i, i < m → L (n + 1) a (on i) = L n (g i a) (on (i + 1))) (he : ∀ n a, L (n + 1) a (on m) = fin a) :
    ∀ k i n a, i + k = m → k < n → L n a (on i) = fin (Nat.rec (motive := fun _ => Nat → α → α) (fun _ a => a) (fun _ r i a => r (i + 1) (g i a)) k i a) := by
  intro k
  induction k with
  | zero =>
    intro i n a hi hn
    obtain ⟨n, rfl⟩ : ∃ n', n = n' + 1 := ⟨n - 1, by omega⟩
    obtain rfl : i = m := by omega
    exact he n a
  | succ k ih =>
    intro i n a hi hn
    obtain ⟨n, rfl⟩ : ∃ n', n = n' + 1 := ⟨n - 1, by omega⟩
    rw [hs n a i (by omega)]
    exact ih (i + 1) n (g i a) (by omega) (by omega)
/-- for i from i, k times -/
def fo {α : Type} (g : Nat → α → α) : Nat → Nat → α → α
  | 0, _, a => a
  | k + 1, i, a => fo g k (i + 1) (g i a)
theorem fo_s {α : Type} (g : Nat → α → α) : ∀ (k i : Nat) (a : α), fo g (k + 1) i a = g (i + k) (fo g k i a) := by
  intro k
  induction k with
  | zero => intro i a; rfl
  | succ k ih =>
    intro i a
    have := ih (i + 1) (g i a)
    rw [fo, this]
    congr 1
    omega
theorem fo_congr {α : Type} {g g' : Nat → α → α} : ∀ (k i : Nat) (a : α), (∀ j, i ≤ j → j < i + k → ∀ b, g j b = g' j b) → fo g k i a = fo g' k i a := by
  intro k
  induction k with
  | zero => intro i a _; rfl
  | succ k ih =>
    intro i a h
    rw [fo, fo, h i (by omega) (by omega)]
    exact ih (i + 1) _ (fun j h1 h2 b => h j (by omega) (by omega) b)
/-- what holds behind each step -/
theorem fo_ind {α : Type} {g : Nat → α → α} (P : Nat → α → Prop) (m : Nat) (hs : ∀ i a, i < m → P i a → P (i + 1) (g i a)) : ∀ (k i : Nat) (a : α), i + k ≤ m → P i a → P (i + k) (fo g k i a) := by
  intro k
  induction k with
  | zero => intro i a _ h; exact h
  | succ k ih =>
    intro i a hi h
    have := ih (i + 1) (g i a) (by omega) (hs i a (by omega) h)
    rw [fo]
    rw [show i + (k + 1) = i + 1 + k by omega]
    exact this
theorem fo_rel {α β : Type} {g : Nat → α → α} {g' : Nat → β → β} (R : α → β → Prop) (m : Nat) (hs : ∀ i a b, i < m → R a b → R (g i a) (g' i b)) : ∀ (k i : Nat) (a : α) (b : β), i + k ≤ m → R a b → R (fo g k i a) (fo g' k i b) := by
  intro k
  induction k with
  | zero => intro i a b _ h; exact h
  | succ k ih =>
    intro i a b hi h
    exact ih (i + 1) _ _ (by omega) (hs i a b (by omega) h)
/-- a counting loop is a fold -/
theorem loop_fo {α β : Type} (L : Nat → α → Int32 → Option β) (g : Nat → α → α) (fin : α → Option β) (P : Nat → α → Prop) (m : Nat)
    (hs : ∀ n a i, i < m → P i a → L (n + 1) a (on i) = L n (g i a) (on (i + 1)) ∧ P (i + 1) (g i a)) (he : ∀ n a, P m a → L (n + 1) a (on m) = fin a) :
    ∀ k i n a, i + k = m → k < n → P i a → L n a (on i) = fin (fo g k i a) ∧ P m (fo g k i a) := by
  intro k
  induction k with
  | zero =>
    intro i n a hi hn hP
    obtain ⟨n, rfl⟩ : ∃ n', n = n' + 1 := ⟨n - 1, by omega⟩
    obtain rfl : i = m := by omega
    exact ⟨he n a hP, hP⟩
  | succ k ih =>
    intro i n a hi hn hP
    obtain ⟨n, rfl⟩ : ∃ n', n = n' + 1 := ⟨n - 1, by omega⟩
    obtain ⟨e, hP'⟩ := hs n a i (by omega) hP
    rw [e]
    exact ih (i + 1) n (g i a) (by omega) (by omega) hP'
theorem bd_some {α β : Type} (a : α) (f : α → Option β) : (some a).bind f = f a := rfl
theorem N_gt {k : Nat} (h : k < 20000) : k < ai_N := h
/-- 1 or 0 -/
def tf (p : Prop) [Decidable p] : Int32 := if p then 1 else 0
theorem tf_0 {p : Prop} [Decidable p] : (tf p = 0) = ¬ p := by
  unfold tf
  by_cases h : p
  · rw [if_pos h]; simp [h]
  · rw [if_neg h]; simp [h]
theorem tf_1 {p : Prop} [Decidable p] : (tf p = 1) = p := by
  unfold tf
  by_cases h : p
  · rw [if_pos h]; simp [h]
  · rw [if_neg h]; simp [h]
theorem tf_pos {p : Prop} [Decidable p] (h : p) : tf p = 1 := if_pos h
theorem tf_neg {p : Prop} [Decidable p] (h : ¬ p) : tf p = 0 := if_neg h
theorem tf_01 {p : Prop} [Decidable p] : tf p = 0 ∨ tf p = 1 := by
  unfold tf
  by_cases h : p
  · rw [if_pos h]; simp
  · rw [if_neg h]; simp
theorem tf_congr {p q : Prop} [Decidable p] [Decidable q] (h : p ↔ q) : tf p = tf q := by
  by_cases hp : p
  · rw [tf_pos hp, tf_pos (h.mp hp)]
  · rw [tf_neg hp, tf_neg (fun hq => hp (h.mpr hq))]
/-- bit i of x -/
abbrev bt (x i : Int32) : Prop := ((x >>> (i &&& 31)) &&& (1 : Int32)) = (1 : Int32)
