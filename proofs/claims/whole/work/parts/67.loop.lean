/-! ===== loops that count ===== -/
theorem loop_e {α β γ : Type} (L : Nat → α → Int32 → ai_V → Option β) (K : γ → Option β) (P : Nat → α → ai_V → Prop) (Q : γ → Prop) (m : Nat)
    (hs : ∀ n a i V, i < m → P i a V → (∃ a' V', L (n + 1) a (on i) V = L n a' (on (i + 1)) V' ∧ P (i + 1) a' V') ∨ (∃ c, L (n + 1) a (on i) V = K c ∧ Q c))
    (he : ∀ n a V, P m a V → ∃ c, L (n + 1) a (on m) V = K c ∧ Q c) :
    ∀ k i n a V, i + k = m → k < n → P i a V → ∃ c, L n a (on i) V = K c ∧ Q c := by
  intro k
  induction k with
  | zero =>
    intro i n a V hi hn hP
    obtain ⟨n, rfl⟩ : ∃ n', n = n' + 1 := ⟨n - 1, by omega⟩
    obtain rfl : i = m := by omega
    exact he n a V hP
  | succ k ih =>
    intro i n a V hi hn hP
    obtain ⟨n, rfl⟩ : ∃ n', n = n' + 1 := ⟨n - 1, by omega⟩
    rcases hs n a i V (by omega) hP with ⟨a', V', e, hP'⟩ | h
    · rw [e]
      exact ih (i + 1) n a' V' (by omega) (by omega) hP'
    · exact h
theorem loop_n {α β γ : Type} (L : Nat → α → Int32 → ai_V → Option β) (K : γ → Option β) (P : Nat → α → ai_V → Prop) (Q : γ → Prop) (m : Nat)
    (hs : ∀ n a i V, i < m → P i a V → ∃ a' V', L (n + 1) a (on i) V = L n a' (on (i + 1)) V' ∧ P (i + 1) a' V')
    (he : ∀ n a V, P m a V → ∃ c, L (n + 1) a (on m) V = K c ∧ Q c) :
    ∀ k i n a V, i + k = m → k < n → P i a V → ∃ c, L n a (on i) V = K c ∧ Q c :=
  loop_e L K P Q m (fun n a i V hi hP => Or.inl (hs n a i V hi hP)) he
/-- a loop over numbers alone -/
theorem loop_p {α β γ : Type} (L : Nat → α → Int32 → Option β) (K : γ → Option β) (P : Nat → α → Prop) (Q : γ → Prop) (m : Nat)
    (hs : ∀ n a i, i < m → P i a → (∃ a', L (n + 1) a (on i) = L n a' (on (i + 1)) ∧ P (i + 1) a') ∨ (∃ c, L (n + 1) a (on i) = K c ∧ Q c))
    (he : ∀ n a, P m a → ∃ c, L (n + 1) a (on m) = K c ∧ Q c) :
    ∀ k i n a, i + k = m → k < n → P i a → ∃ c, L n a (on i) = K c ∧ Q c := by
  intro k
  induction k with
  | zero =>
    intro i n a hi hn hP
    obtain ⟨n, rfl⟩ : ∃ n', n = n' + 1 := ⟨n - 1, by omega⟩
    obtain rfl : i = m := by omega
    exact he n a hP
  | succ k ih =>
    intro i n a hi hn hP
    obtain ⟨n, rfl⟩ : ∃ n', n = n' + 1 := ⟨n - 1, by omega⟩
    rcases hs n a i (by omega) hP with ⟨a', e, hP'⟩ | h
    · rw [e]
      exact ih (i + 1) n a' (by omega) (by omega) hP'
    · exact h
/-- a loop of any kind -/
theorem loop_w {α β γ : Type} (L : Nat → α → ai_V → Option β) (K : γ → Option β) (P : α → ai_V → Prop) (Q : γ → Prop) (μ : α → ai_V → Nat)
    (hs : ∀ n a V, P a V → (∃ a' V', L (n + 1) a V = L n a' V' ∧ P a' V' ∧ μ a' V' < μ a V) ∨ (∃ c, L (n + 1) a V = K c ∧ Q c)) :
    ∀ n a V, P a V → μ a V < n → ∃ c, L n a V = K c ∧ Q c := by
  intro n
  induction n with
  | zero => intro a V _ hn; omega
  | succ n ih =>
    intro a V hP hn
    rcases hs n a V hP with ⟨a', V', e, hP', hm⟩ | h
    · rw [e]
      exact ih a' V' hP' (by omega)
    · exact h
