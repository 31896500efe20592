/-! ===== the house, as both ask it ===== -/
theorem nlt {x y : Int32} : ¬ x < y ↔ y ≤ x := Int32.not_lt
theorem nle {x y : Int32} : ¬ x ≤ y ↔ y < x := Int32.not_le
def hasP (h : Hs) (x : Int32) : Prop := 0 ≤ x ∧ x < on (hm h)
abbrev hasD (h : Hs) (x : Int32) : Decidable (hasP h x) := inferInstanceAs (Decidable (0 ≤ x ∧ x < on (hm h)))
theorem has_eq {V : ai_V} {h : Hs} (hC : CH V h) (x : Int32) : d_House_has x V = some (tf (0 ≤ x ∧ x < on (hm h))) := by
  rw [d_House_has, hC.1]
  by_cases h1 : x < 0
  · rw [if_pos h1, tf_neg (fun e => absurd e.1 (nle.mpr h1))]
  · rw [if_neg h1]
    by_cases h2 : on (hm h) ≤ x
    · rw [if_pos h2, tf_neg (fun e => absurd e.2 (nlt.mpr h2))]
    · rw [if_neg h2, tf_pos ⟨nlt.mp h1, nle.mp h2⟩]
theorem has_on {h : Hs} (hO : HO h) {x : Int32} (hx : 0 ≤ x ∧ x < on (hm h)) : ∃ i, i < hm h ∧ x = on i := by
  have h6 := hO.1
  refine ⟨x.toNatClampNeg, ?_, (on_of hx.1).symm⟩
  have := hx.2
  rw [← on_of hx.1, on_lt x.toNatClampNeg_lt (by omega)] at this
  exact this
theorem on_has {h : Hs} (hO : HO h) {i : Nat} (hi : i < hm h) : 0 ≤ on i ∧ on i < on (hm h) := by
  have h6 := hO.1
  exact ⟨on_ge0 (by omega), by rw [on_lt (by omega) (by omega)]; exact hi⟩
theorem no_has {h : Hs} : ¬ ((0 : Int32) ≤ -1 ∧ (-1 : Int32) < on (hm h)) := fun e => absurd e.1 (by decide)
theorem in_eq (x a b : Int32) (V : ai_V) : d_M_in x a b V = some (tf (a ≤ x ∧ x ≤ b)) := by
  rw [d_M_in]
  by_cases h1 : x < a
  · rw [if_pos h1, tf_neg (fun e => absurd e.1 (nle.mpr h1))]
  · rw [if_neg h1]
    by_cases h2 : b < x
    · rw [if_pos h2, tf_neg (fun e => absurd e.2 (nle.mpr h2))]
    · rw [if_neg h2, tf_pos ⟨nlt.mp h1, nlt.mp h2⟩]
theorem on_m1 {m : Nat} (hm : m < 100000) : (on m - (1 : Int32)).toInt = (m : Int) - 1 := by
  rw [ti_sub]
  · rw [on_ti (by omega)]; rfl
  · rw [on_ti (by omega)]; show _ ≤ (m : Int) - 1; omega
  · rw [on_ti (by omega)]; show (m : Int) - 1 < _; omega
theorem le_m1 {m : Nat} (hm : m < 100000) (x : Int32) : x ≤ on m - (1 : Int32) ↔ x < on m := by
  rw [ti_le, ti_lt, on_m1 hm, on_ti (by omega)]; omega
theorem isOne_eq {V : ai_V} {h : Hs} (hO : HO h) (hM : MH V h) (x : Int32) : d_M_isOne x V = some (tf (0 ≤ x ∧ x < on (hm h))) := by
  have h6 := hO.1
  rw [d_M_isOne, in_eq, bd_some, hM.1, if_pos tf_01]
  congr 1
  exact tf_congr (and_congr Iff.rfl (le_m1 (by omega) x))
theorem pw_eq : ∀ m, m < 7 → (1 : Int32) <<< (on m &&& 31) = on (2 ^ m) := by decide +kernel
theorem hasAll_eq {V : ai_V} {h : Hs} (hO : HO h) (hC : CH V h) (x : Int32) : d_House_hasAll x V = some (tf (0 ≤ x ∧ x < on (2 ^ hm h))) := by
  have h6 := hO.1
  rw [d_House_hasAll, hC.1, pw_eq _ (by omega)]
  by_cases h1 : x < 0
  · rw [if_pos h1, tf_neg (fun e => absurd e.1 (nle.mpr h1))]
  · rw [if_neg h1]
    by_cases h2 : on (2 ^ hm h) ≤ x
    · rw [if_pos h2, tf_neg (fun e => absurd e.2 (nlt.mpr h2))]
    · rw [if_neg h2, tf_pos ⟨nlt.mp h1, nle.mp h2⟩]
theorem two_le {m : Nat} (h : m ≤ 6) : 2 ^ m ≤ 64 := by
  have : 2 ^ m ≤ 2 ^ 6 := Nat.pow_le_pow_right (by decide) h
  exact this
theorem areThose_eq {V : ai_V} {h : Hs} (hO : HO h) (hM : MH V h) (x : Int32) : d_M_areThose x V = some (tf (0 ≤ x ∧ x < on (2 ^ hm h))) := by
  have h6 := hO.1
  have := two_le h6
  rw [d_M_areThose, hM.1, pw_eq _ (by omega), in_eq, bd_some, if_pos tf_01]
  congr 1
  exact tf_congr (and_congr Iff.rfl (le_m1 (by omega) x))
theorem those_on {h : Hs} (hO : HO h) {x : Int32} (hx : 0 ≤ x ∧ x < on (2 ^ hm h)) : ∃ b, b < 2 ^ hm h ∧ x = on b := by
  have := two_le hO.1
  refine ⟨x.toNatClampNeg, ?_, (on_of hx.1).symm⟩
  have := hx.2
  rw [← on_of hx.1, on_lt x.toNatClampNeg_lt (by omega)] at this
  exact this
theorem bt_on : ∀ b, b < 64 → ∀ i, i < 6 → (bt (on b) (on i) ↔ b.testBit i = true) := by decide +kernel
theorem or_on : ∀ b, b < 64 → ∀ i, i < 6 → on b ||| ((1 : Int32) <<< (on i &&& 31)) = on (b ||| 2 ^ i) := by decide +kernel
theorem mhas_eq (x i : Int32) (V : ai_V) : d_M_has x i V = some (tf (bt x i)) := by
  rw [d_M_has]
  by_cases e : bt x i
  · rw [if_neg (fun hn => hn e), tf_pos e]
  · rw [if_pos e, tf_neg e]
theorem mhas_on {b i : Nat} (hb : b < 64) (hi : i < 6) (V : ai_V) : d_M_has (on b) (on i) V = some (tf (b.testBit i = true)) := by
  rw [mhas_eq]
  congr 1
  exact tf_congr (bt_on b hb i hi)
/-- how many of six bits -/
def popc (b : Nat) : Nat := b % 2 + b / 2 % 2 + b / 4 % 2 + b / 8 % 2 + b / 16 % 2 + b / 32 % 2
theorem bitCount_on : ∀ b, b < 64 → ∀ V : ai_V, d_Int_bitCount (on b) V = some (on (popc b)) := by
  have key : ∀ b, b < 64 → d_Int_bitCount (on b) V00 = some (on (popc b)) := by decide +kernel
  intro b hb V
  exact key b hb
theorem popc_le : ∀ b, b < 64 → popc b ≤ 6 := by decide +kernel
theorem popc_or : ∀ b, b < 64 → ∀ i, i < 6 → b.testBit i = false → popc (b ||| 2 ^ i) = popc b + 1 ∧ b ||| 2 ^ i < 64 := by decide +kernel
theorem or_lt : ∀ b, b < 64 → ∀ i, i < 6 → b ||| 2 ^ i < 64 := by decide +kernel
/-- who is on the wheel, as the class is told, and as bits -/
def pr (h : Hs) (x y : Int32) (b : Nat) : Prop := (x = -1 ∧ y = -1 ∧ b = 0) ∨ (∃ i, i < hm h ∧ x = on i ∧ y = -1 ∧ b = 2 ^ i) ∨ (∃ i j, i < hm h ∧ j < hm h ∧ i ≠ j ∧ x = on i ∧ y = on j ∧ b = 2 ^ i ||| 2 ^ j)
theorem on_ne_m1 {i : Nat} (h : i < 2147483648) : on i ≠ -1 := by
  intro e
  have := on_ge0 h
  rw [e] at this
  exact absurd this (by decide)
theorem pw_lt : ∀ i, i < 6 → 2 ^ i < 64 := by decide
theorem pr.lt {h : Hs} {x y : Int32} {b : Nat} (hO : HO h) (hp : pr h x y b) : b < 64 := by
  have h6 := hO.1
  rcases hp with ⟨-, -, rfl⟩ | ⟨i, hi, -, -, rfl⟩ | ⟨i, j, hi, hj, -, -, -, rfl⟩
  · decide
  · exact pw_lt i (by omega)
  · exact or_lt _ (pw_lt i (by omega)) j (by omega)
def canT (h : Hs) (x y : Int32) : Prop := if x = -1 then y = -1 else (0 ≤ x ∧ x < on (hm h)) ∧ x ≠ y ∧ (y = -1 ∨ (0 ≤ y ∧ y < on (hm h)))
theorem canT_pr {h : Hs} (hO : HO h) {x y : Int32} (hc : canT h x y) : ∃ b, pr h x y b := by
  unfold canT at hc
  by_cases e : x = -1
  · rw [if_pos e] at hc
    exact ⟨0, Or.inl ⟨e, hc, rfl⟩⟩
  · rw [if_neg e] at hc
    obtain ⟨h1, h2, h3⟩ := hc
    obtain ⟨i, hi, rfl⟩ := has_on hO h1
    rcases h3 with h3 | h3
    · exact ⟨_, Or.inr (Or.inl ⟨i, hi, rfl, h3, rfl⟩)⟩
    · obtain ⟨j, hj, rfl⟩ := has_on hO h3
      exact ⟨_, Or.inr (Or.inr ⟨i, j, hi, hj, fun e => h2 (e ▸ rfl), rfl, rfl, rfl⟩)⟩
theorem canTread_eq {V : ai_V} {h : Hs} (hO : HO h) (hC : CH V h) (x y : Int32) : (d_House_canTread x y V = some 1 ∧ canT h x y) ∨ (d_House_canTread x y V = some 0 ∧ ¬ canT h x y) := by
  unfold canT
  rw [d_House_canTread]
  by_cases e : x = -1
  · rw [if_neg (fun hn => hn e), if_pos e]
    by_cases e2 : y = -1
    · rw [if_neg (fun hn => hn e2)]; exact Or.inl ⟨rfl, e2⟩
    · rw [if_pos e2]; exact Or.inr ⟨rfl, e2⟩
  · rw [if_pos e, if_neg e, has_eq hC, bd_some]
    by_cases h1 : 0 ≤ x ∧ x < on (hm h)
    · rw [if_neg (by rw [tf_pos h1]; decide)]
      by_cases h2 : x = y
      · rw [if_pos h2]; exact Or.inr ⟨rfl, fun hn => hn.2.1 h2⟩
      · rw [if_neg h2]
        by_cases h3 : y = -1
        · rw [if_pos h3]; exact Or.inl ⟨rfl, h1, h2, Or.inl h3⟩
        · rw [if_neg h3, has_eq hC, bd_some]
          by_cases h4 : 0 ≤ y ∧ y < on (hm h)
          · rw [if_neg (by rw [tf_pos h4]; decide)]; exact Or.inl ⟨rfl, h1, h2, Or.inr h4⟩
          · rw [if_pos (by rw [tf_neg h4])]
            refine Or.inr ⟨rfl, fun hn => ?_⟩
            rcases hn.2.2 with hn | hn
            · exact h3 hn
            · exact h4 hn
    · rw [if_pos (by rw [tf_neg h1])]
      exact Or.inr ⟨rfl, fun hn => h1 hn.1⟩
/-- turns of those on the wheel -/
def tn (h : Hs) (b : Nat) : Int32 := if b = 0 then 0 else fo (fun i a => if b.testBit i = true then ai_min a (hpc h i) else a) (hm h) 0 9
theorem turnsM_eq {V : ai_V} {h : Hs} (hO : HO h) (hM : MH V h) {b : Nat} (hb : b < 64) : d_M_turnsOf (on b) V = some (tn h b) := by
  have h6 := hO.1
  have key : ∀ s0 : Int32, d_M_turnsOf_10 (on b) s0 V = some (fo (fun i a => if b.testBit i = true then ai_min a (hpc h i) else a) (hm h) 0 s0) := by
    intro s0
    rw [d_M_turnsOf_10]
    refine (loop_fo (fun n (a : Int32) i => d_M_turnsOf_13 n (on b) a i V) (fun i a => if b.testBit i = true then ai_min a (hpc h i) else a) some (fun _ _ => True) (hm h) ?_ ?_ (hm h) 0 ai_N s0 (by omega) (N_gt (by omega)) trivial).1
    · intro n a i hi _
      refine ⟨?_, trivial⟩
      show d_M_turnsOf_13 (n + 1) (on b) a (on i) V = _
      rw [d_M_turnsOf_13, hM.1, if_neg (by rw [on_le (by omega) (by omega)]; omega), mhas_on hb (by omega), bd_some]
      by_cases e : b.testBit i = true
      · rw [if_neg (by rw [tf_pos e]; decide), if_pos (by rw [on_in (by omega)]; omega), d_M_turnsOf_40, on_s, if_pos e, on_nn (by omega), hM.2.2.2.2.1]
      · rw [if_pos (by rw [tf_neg e]), d_M_turnsOf_40, on_s, if_neg e]
    · intro n a _
      show d_M_turnsOf_13 (n + 1) (on b) a (on (hm h)) V = _
      rw [d_M_turnsOf_13, hM.1, if_pos (Int32.le_refl _)]
  rw [d_M_turnsOf, tn]
  by_cases e : b = 0
  · subst e
    rw [if_neg (fun hn => hn rfl), if_pos rfl, key]
    congr 1
    have : ∀ k i (a : Int32), fo (fun i a => if (0 : Nat).testBit i = true then ai_min a (hpc h i) else a) k i a = a := by
      intro k
      induction k with
      | zero => intro i a; rfl
      | succ k ih => intro i a; rw [fo, if_neg (by simp), ih]
    exact this _ _ _
  · rw [if_pos (fun hn => e (by rw [show (0 : Int32) = on 0 from rfl, on_inj (by omega) (by omega)] at hn; exact hn)), if_neg e, key]
