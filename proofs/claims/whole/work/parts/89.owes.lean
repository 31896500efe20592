/-! ===== owes, fund ===== -/
def o6 (n : Nat) : Int64 := Int64.ofNat n
theorem o6_ti {n : Nat} (h : n < 9223372036854775808) : (o6 n).toInt = n := Int64.toInt_ofNat_of_lt h
theorem o6_add (a b : Nat) : o6 a + o6 b = o6 (a + b) := (Int64.ofNat_add a b).symm
theorem o6_mul (a b : Nat) : o6 a * o6 b = o6 (a * b) := (Int64.ofNat_mul a b).symm
theorem o6_div {a b : Nat} (ha : a < 9223372036854775808) (hb : b < 9223372036854775808) : o6 a / o6 b = o6 (a / b) := (Int64.ofNat_div ha hb).symm
theorem o6_sub {a b : Nat} (h : b ≤ a) : o6 a - o6 b = o6 (a - b) := (Int64.ofNat_sub a b h).symm
theorem o6_mod {a b : Nat} (ha : a < 9223372036854775808) (hb : b < 9223372036854775808) : o6 a - o6 a / o6 b * o6 b = o6 (a % b) := by
  rw [o6_div ha hb, o6_mul, o6_sub (Nat.div_mul_le_self a b)]
  congr 1
  have := Nat.div_add_mod a b
  rw [Nat.mul_comm] at this
  omega
theorem o6_inj {a b : Nat} (ha : a < 9223372036854775808) (hb : b < 9223372036854775808) : (o6 a = o6 b) ↔ a = b := by
  rw [t6_eq, o6_ti ha, o6_ti hb]; omega
theorem o6_0 {a : Nat} (ha : a < 9223372036854775808) : (o6 a = 0) ↔ a = 0 := o6_inj (b := 0) ha (by omega)
theorem cmp6 {a : Nat} (ha : a < 9223372036854775808) : (lg_cmp (o6 a) (Int64.ofNat 0) = 0) ↔ a = 0 := by
  unfold lg_cmp
  by_cases e : a = 0
  · subst e; simp [o6]
  · have h1 : o6 a > Int64.ofNat 0 := by
      show Int64.ofNat 0 < o6 a
      rw [t6_lt, o6_ti ha]
      show (0 : Int) < _
      omega
    rw [if_pos h1]
    exact ⟨fun h => absurd h (by decide), fun h => absurd h e⟩
theorem on6 (n : Nat) (hn : n < 2147483648) : (on n).toInt64 = o6 n := on64 n hn
/-- Euclid's steps are few -/
theorem gcd_st (a b : Nat) : Nat.gcd b (a % b) = Nat.gcd a b := by
  rw [Nat.gcd_comm b (a % b), ← Nat.gcd_rec, Nat.gcd_comm]
theorem half_lt {a b j : Nat} (hb : b < 2 ^ (j + 1)) (hr : a % b ≠ 0) : b % (a % b) < 2 ^ j := by
  by_cases hb0 : b = 0
  · subst hb0
    simp at hr
    rw [Nat.zero_mod]
    exact Nat.pow_pos (by decide)
  · have h1 : a % b < b := Nat.mod_lt _ (by omega)
    have h2 : b % (a % b) < a % b := Nat.mod_lt _ (by omega)
    have h3 := Nat.div_add_mod b (a % b)
    have h4 : 1 ≤ b / (a % b) := (Nat.one_le_div_iff (by omega)).mpr (by omega)
    have h5 : (a % b) * 1 ≤ (a % b) * (b / (a % b)) := Nat.mul_le_mul_left _ h4
    have h6 : 2 ^ (j + 1) = 2 * 2 ^ j := by rw [Nat.pow_succ, Nat.mul_comm]
    omega
theorem M_gcd {V : ai_V} : ∀ (j a b fu : Nat), b < 2 ^ j → a < 9223372036854775808 → b < 9223372036854775808 → 2 * j < fu → d_M_common_R fu (o6 a) (o6 b) V = some (o6 (Nat.gcd a b)) := by
  intro j
  induction j with
  | zero =>
    intro a b fu hb ha hb6 hfu
    obtain ⟨fu, rfl⟩ : ∃ n', fu = n' + 1 := ⟨fu - 1, by omega⟩
    have hb0 : b = 0 := by have : 2 ^ 0 = 1 := rfl; omega
    subst hb0
    rw [d_M_common_R, d_M_common_B, if_neg (fun hn => hn ((cmp6 (by omega)).mpr rfl)), Nat.gcd_zero_right]
  | succ j ih =>
    intro a b fu hb ha hb6 hfu
    obtain ⟨fu, rfl⟩ : ∃ n', fu = n' + 1 := ⟨fu - 1, by omega⟩
    rw [d_M_common_R, d_M_common_B]
    by_cases e : b = 0
    · subst e
      rw [if_neg (fun hn => hn ((cmp6 (by omega)).mpr rfl)), Nat.gcd_zero_right]
    · have hlt : a % b < b := Nat.mod_lt _ (by omega)
      rw [if_pos (fun hc => e ((cmp6 hb6).mp hc)), if_neg (fun hc => e ((o6_0 hb6).mp hc)), o6_mod ha hb6]
      obtain ⟨fu, rfl⟩ : ∃ n', fu = n' + 1 := ⟨fu - 1, by omega⟩
      have key : d_M_common_R (fu + 1) (o6 b) (o6 (a % b)) V = some (o6 (Nat.gcd a b)) := by
        rw [d_M_common_R, d_M_common_B]
        by_cases e2 : a % b = 0
        · rw [if_neg (fun hn => hn ((cmp6 (by omega)).mpr e2)), ← gcd_st a b, e2, Nat.gcd_zero_right]
        · rw [if_pos (fun hc => e2 ((cmp6 (by omega)).mp hc)), if_neg (fun hc => e2 ((o6_0 (by omega)).mp hc)), o6_mod hb6 (by omega), ih (a % b) (b % (a % b)) fu (half_lt hb e2) (by omega) (by have := Nat.mod_lt b (show a % b > 0 by omega); omega) (by omega), gcd_st, gcd_st]; rfl
      rw [key]; rfl
theorem C_gcd {V : ai_V} : ∀ (j a b s fu : Nat), b < 2 ^ j → a < 9223372036854775808 → b < 9223372036854775808 → 2 * j < fu → s + 2 * j < 100 → d_X_commonDivisor_3 fu (o6 a) (o6 b) (on s) V = some (o6 (Nat.gcd a b)) := by
  intro j
  induction j with
  | zero =>
    intro a b s fu hb ha hb6 hfu hs
    obtain ⟨fu, rfl⟩ : ∃ n', fu = n' + 1 := ⟨fu - 1, by omega⟩
    have hb0 : b = 0 := by have : 2 ^ 0 = 1 := rfl; omega
    subst hb0
    rw [d_X_commonDivisor_3, if_neg (by rw [show (100 : Int32) = on 100 from rfl, on_le (by omega) (by omega)]; omega), if_pos ((cmp6 (by omega)).mpr rfl), Nat.gcd_zero_right]
  | succ j ih =>
    intro a b s fu hb ha hb6 hfu hs
    obtain ⟨fu, rfl⟩ : ∃ n', fu = n' + 1 := ⟨fu - 1, by omega⟩
    rw [d_X_commonDivisor_3, if_neg (by rw [show (100 : Int32) = on 100 from rfl, on_le (by omega) (by omega)]; omega)]
    by_cases e : b = 0
    · subst e
      rw [if_pos ((cmp6 (by omega)).mpr rfl), Nat.gcd_zero_right]
    · have hlt : a % b < b := Nat.mod_lt _ (by omega)
      rw [if_neg (fun hc => e ((cmp6 hb6).mp hc)), if_neg (fun hc => e ((o6_0 hb6).mp hc)), o6_mod ha hb6, on_s]
      obtain ⟨fu, rfl⟩ : ∃ n', fu = n' + 1 := ⟨fu - 1, by omega⟩
      rw [d_X_commonDivisor_3, if_neg (by rw [show (100 : Int32) = on 100 from rfl, on_le (by omega) (by omega)]; omega)]
      by_cases e2 : a % b = 0
      · rw [if_pos ((cmp6 (by omega)).mpr e2), ← gcd_st a b, e2, Nat.gcd_zero_right]
      · rw [if_neg (fun hc => e2 ((cmp6 (by omega)).mp hc)), if_neg (fun hc => e2 ((o6_0 (by omega)).mp hc)), o6_mod hb6 (by omega), on_s, ih (a % b) (b % (a % b)) (s + 1 + 1) fu (half_lt hb e2) (by omega) (by have := Nat.mod_lt b (show a % b > 0 by omega); omega) (by omega) (by omega), gcd_st, gcd_st]
/-- sums of chances -/
def oU (p : Nat) : Nat → Nat
  | 0 => 1
  | k + 1 => oU p k * 10 + p ^ (k + 1)
theorem oU_le {p : Nat} (hp : p ≤ 10) : ∀ k, oU p k ≤ (k + 1) * 10 ^ k ∧ p ^ k ≤ 10 ^ k := by
  intro k
  induction k with
  | zero => exact ⟨by show 1 ≤ 1 * 1; omega, Nat.le_refl _⟩
  | succ k ih =>
    have h1 : p ^ (k + 1) ≤ 10 ^ (k + 1) := Nat.pow_le_pow_left hp _
    refine ⟨?_, h1⟩
    have h2 : oU p k * 10 ≤ (k + 1) * 10 ^ k * 10 := Nat.mul_le_mul_right _ ih.1
    have h3 : (k + 1) * 10 ^ k * 10 = (k + 1) * 10 ^ (k + 1) := by rw [Nat.pow_succ, Nat.mul_assoc]
    have h4 : (k + 1 + 1) * 10 ^ (k + 1) = (k + 1) * 10 ^ (k + 1) + 10 ^ (k + 1) := by rw [Nat.succ_mul]
    show oU p k * 10 + p ^ (k + 1) ≤ _
    omega
theorem mean_eq {V : ai_V} {h : Hs} {i n p c : Nat} (hO : HO h) (hC : CH V h) (hi : i < hm h) (hc : hdu h * (hst h i + 1) = on c) (hc' : c < 1000) (h1 : 1 ≤ n) (hn : n ≤ 12) (hp : p ≤ 10) : d_X_meanTimes (on i) (on n) (on p) V = some (o6 (c * oU p (n - 1))) := by
  have h6 := hO.1
  rw [d_X_meanTimes, d_House_chargeOf, if_pos (by rw [on_in (by omega)]; omega), bd_some, on_nn (by omega), hC.2.1, hC.2.2.2.1, hc, on6 c (by omega)]
  have := loop_p (fun q (a : Int64 × Int64) y => d_X_meanTimes_25 q (on n) (on p) a.1 a.2 y V) (fun x : Int64 => some x) (fun k a => 1 ≤ k ∧ a = (o6 (c * p ^ (k - 1)), o6 (c * oU p (k - 1)))) (fun x => x = o6 (c * oU p (n - 1))) n ?_ ?_ (n - 1) 1 ai_N (o6 c, o6 c) (by omega) (N_gt (by omega)) ⟨by omega, by simp [oU]⟩
  · obtain ⟨x, e, rfl⟩ := this
    exact e
  · rintro q a k hk ⟨k1, rfl⟩
    left
    show ∃ a' : Int64 × Int64, d_X_meanTimes_25 (q + 1) (on n) (on p) (o6 (c * p ^ (k - 1))) (o6 (c * oU p (k - 1))) (on k) V = _ ∧ _
    rw [d_X_meanTimes_25, if_neg (by rw [on_le (by omega) (by omega)]; omega), on6 p (by omega), show Int64.ofNat 10 = o6 10 from rfl, o6_mul, o6_mul, o6_add, on_s]
    obtain ⟨j, rfl⟩ : ∃ j, k = j + 1 := ⟨k - 1, by omega⟩
    simp only [Nat.add_sub_cancel]
    have e1 : c * p ^ j * p = c * p ^ (j + 1) := by rw [Nat.pow_succ, Nat.mul_assoc]
    have e2 : c * oU p j * 10 + c * p ^ (j + 1) = c * oU p (j + 1) := by rw [oU, Nat.mul_add, Nat.mul_assoc]
    rw [e1, e2]
    exact ⟨(o6 (c * p ^ (j + 1)), o6 (c * oU p (j + 1))), rfl, by omega, rfl⟩
  · rintro q a ⟨k1, rfl⟩
    show ∃ x : Int64, d_X_meanTimes_25 (q + 1) (on n) (on p) (o6 (c * p ^ (n - 1))) (o6 (c * oU p (n - 1))) (on n) V = _ ∧ _
    rw [d_X_meanTimes_25, if_pos (Int32.le_refl _)]
    exact ⟨_, rfl, rfl⟩
theorem ten_eq {V : ai_V} {n : Nat} (h1 : 1 ≤ n) (hn : n ≤ 12) : d_X_tenTo (on n - 1) V = some (o6 (10 ^ (n - 1))) := by
  rw [one_on, on_sub (by omega), d_X_tenTo]
  have := loop_p (fun q (a : Int64) y => d_X_tenTo_4 q (on (n - 1)) a y V) (fun x : Int64 => some x) (fun k a => a = o6 (10 ^ k)) (fun x => x = o6 (10 ^ (n - 1))) (n - 1) ?_ ?_ (n - 1) 0 ai_N (o6 1) (by omega) (N_gt (by omega)) rfl
  · obtain ⟨x, e, rfl⟩ := this
    exact e
  · rintro q a k hk rfl
    left
    show ∃ a' : Int64, d_X_tenTo_4 (q + 1) (on (n - 1)) (o6 (10 ^ k)) (on k) V = _ ∧ _
    rw [d_X_tenTo_4, if_neg (by rw [on_le (by omega) (by omega)]; omega), show Int64.ofNat 10 = o6 10 from rfl, o6_mul, on_s]
    exact ⟨_, rfl, by rw [Nat.pow_succ]⟩
  · rintro q a rfl
    show ∃ x : Int64, d_X_tenTo_4 (q + 1) (on (n - 1)) (o6 (10 ^ (n - 1))) (on (n - 1)) V = _ ∧ _
    rw [d_X_tenTo_4, if_pos (Int32.le_refl _)]
    exact ⟨_, rfl, rfl⟩
theorem ten_le {n : Nat} (hn : n ≤ 12) : 10 ^ (n - 1) ≤ 100000000000 ∧ 0 < 10 ^ (n - 1) := by
  have : 10 ^ (n - 1) ≤ 10 ^ 11 := Nat.pow_le_pow_right (by decide) (by omega)
  exact ⟨this, Nat.pow_pos (by decide)⟩
theorem S_le {n p c : Nat} (hc : c < 1000) (hn : n ≤ 12) (hp : p ≤ 10) : c * oU p (n - 1) < 2000000000000000 := by
  have h1 := (oU_le hp (n - 1)).1
  have h2 := (ten_le hn).1
  have h3 : (n - 1 + 1) * 10 ^ (n - 1) ≤ 12 * 100000000000 := Nat.mul_le_mul (by omega) h2
  have h4 : c * oU p (n - 1) ≤ 1000 * (12 * 100000000000) := Nat.mul_le_mul (by omega) (by omega)
  omega
theorem findOwed_eq {V : ai_V} {h : Hs} {i n p c : Nat} (hO : HO h) (hM : MH V h) (hi : i < hm h) (hc : hdu h * (hst h i + 1) = on c) (hd : ∃ d s, hdu h = on d ∧ hst h i = on s ∧ d ≤ 9 ∧ s ≤ 5 ∧ c = d * (s + 1)) (hc' : c < 1000) (h1 : 1 ≤ n) (hn : n ≤ 12) (hp : p ≤ 10) :
    ∃ V', d_M_findOwed (on i) (on n) (on p) V = some V' ∧ gj V' 89 56 = o6 (c * oU p (n - 1) / Nat.gcd (c * oU p (n - 1)) (10 ^ (n - 1))) ∧ gj V' 89 57 = o6 (10 ^ (n - 1) / Nat.gcd (c * oU p (n - 1)) (10 ^ (n - 1))) ∧ Fr ([(89, 56), (89, 57)], []) V V' := by
  have h6 := hO.1
  obtain ⟨d, s, hd1, hs1, hd9, hs5, hcd⟩ := hd
  rw [d_M_findOwed]
  have := loop_p (fun q (a : Int64 × Int64 × Int64) y => d_M_findOwed_12 q (on i) (on n) (on p) a.1 a.2.1 a.2.2 y V) (fun x : ai_V => some x) (fun k a => (k = 0 ∧ a = (o6 0, o6 1, o6 1)) ∨ (∃ j, k = j + 1 ∧ a = (o6 (oU p j), o6 (10 ^ j), o6 (p ^ j)))) (fun V' => gj V' 89 56 = o6 (c * oU p (n - 1) / Nat.gcd (c * oU p (n - 1)) (10 ^ (n - 1))) ∧ gj V' 89 57 = o6 (10 ^ (n - 1) / Nat.gcd (c * oU p (n - 1)) (10 ^ (n - 1))) ∧ Fr ([(89, 56), (89, 57)], []) V V') n ?_ ?_ n 0 ai_N (o6 0, o6 1, o6 1) (by omega) (N_gt (by omega)) (Or.inl ⟨rfl, rfl⟩)
  · exact this
  · rintro q a k hk hP
    left
    rcases hP with ⟨rfl, rfl⟩ | ⟨j, rfl, rfl⟩
    · show ∃ a' : Int64 × Int64 × Int64, d_M_findOwed_12 (q + 1) (on i) (on n) (on p) (o6 0) (o6 1) (o6 1) (on 0) V = _ ∧ _
      rw [d_M_findOwed_12, if_neg (by rw [on_le (by omega) (by omega)]; omega), if_pos (by decide), d_M_findOwed_46, o6_add, on_s]
      exact ⟨(o6 (0 + 1), o6 1, o6 1), rfl, Or.inr ⟨0, rfl, rfl⟩⟩
    · show ∃ a' : Int64 × Int64 × Int64, d_M_findOwed_12 (q + 1) (on i) (on n) (on p) (o6 (oU p j)) (o6 (10 ^ j)) (o6 (p ^ j)) (on (j + 1)) V = _ ∧ _
      rw [d_M_findOwed_12, if_neg (by rw [on_le (by omega) (by omega)]; omega), if_neg (by rw [zero_on, on_le (by omega) (by omega)]; omega), d_M_findOwed_46, on6 p (by omega), show Int64.ofNat 10 = o6 10 from rfl, o6_mul, o6_mul, o6_mul, o6_add, on_s, show oU p j * 10 + p ^ j * p = oU p (j + 1) by rw [oU, Nat.pow_succ], ← Nat.pow_succ, ← Nat.pow_succ]
      exact ⟨(o6 (oU p (j + 1)), o6 (10 ^ (j + 1)), o6 (p ^ (j + 1))), rfl, Or.inr ⟨j + 1, rfl, rfl⟩⟩
  · rintro q a hP
    rcases hP with ⟨h0, -⟩ | ⟨j, hj, rfl⟩
    · omega
    · have hjn : n - 1 = j := by omega
      show ∃ x : ai_V, d_M_findOwed_12 (q + 1) (on i) (on n) (on p) (o6 (oU p j)) (o6 (10 ^ j)) (o6 (p ^ j)) (on n) V = _ ∧ _
      have hS := S_le (n := n) hc' hn hp
      have hT := ten_le hn
      rw [hjn] at hS hT ⊢
      have hmul : o6 (oU p j) * ((hdu h).toInt64 * (hst h i + 1).toInt64) = o6 (c * oU p j) := by
        rw [hd1, hs1, on_s, on6 d (by omega), on6 (s + 1) (by omega), o6_mul, o6_mul, ← hcd, Nat.mul_comm]
      have hg : Nat.gcd (c * oU p j) (10 ^ j) ≠ 0 := fun h0 => by
        have := (Nat.gcd_eq_zero_iff.mp h0).2
        omega
      have hgl : Nat.gcd (c * oU p j) (10 ^ j) ≤ 10 ^ j := Nat.gcd_le_right _ (by omega)
      have hcom : d_M_common (o6 (c * oU p j)) (o6 (10 ^ j)) V = some (o6 (Nat.gcd (c * oU p j) (10 ^ j))) := M_gcd 37 _ _ 80 (by have : (2 : Nat) ^ 37 = 137438953472 := rfl; omega) (by omega) (by omega) (by omega)
      rw [d_M_findOwed_12, if_pos (Int32.le_refl _), if_pos (by rw [on_in (by omega)]; omega), on_nn (by omega), hM.2.1, hM.2.2.2.1, hmul, hcom, bd_some, if_neg (fun hc => hg ((o6_0 (by omega)).mp hc)), if_neg (fun hc => hg ((o6_0 (by omega)).mp hc)), o6_div (by omega) (by omega), o6_div (by omega) (by omega)]
      refine ⟨_, rfl, ?_, ?_, Fr.sj (Fr.sj Fr.rf rfl) rfl⟩
      · rw [gj_sj, if_neg (by decide), gj_sj, if_pos ⟨rfl, rfl⟩]
      · rw [gj_sj, if_pos ⟨rfl, rfl⟩]
def canL (h : Hs) (x n p : Int32) : Prop := (0 ≤ x ∧ x < on (hm h)) ∧ (1 ≤ n ∧ n ≤ 12) ∧ (0 ≤ p ∧ p ≤ 10)
theorem canC_eq {V : ai_V} {h : Hs} (hC : CH V h) (x n p : Int32) : (d_X_canLive x n p V = some 1 ∧ canL h x n p) ∨ (d_X_canLive x n p V = some 0 ∧ ¬ canL h x n p) := by
  unfold canL
  rw [d_X_canLive, has_eq hC, bd_some]
  by_cases h1 : 0 ≤ x ∧ x < on (hm h)
  · rw [if_neg (by rw [tf_pos h1]; decide)]
    by_cases h2 : n < 1
    · rw [if_pos h2]; exact Or.inr ⟨rfl, fun hc => absurd hc.2.1.1 (nle.mpr h2)⟩
    · rw [if_neg h2]
      by_cases h3 : 12 < n
      · rw [if_pos h3]; exact Or.inr ⟨rfl, fun hc => absurd hc.2.1.2 (nle.mpr h3)⟩
      · rw [if_neg h3]
        by_cases h4 : p < 0
        · rw [if_pos h4]; exact Or.inr ⟨rfl, fun hc => absurd hc.2.2.1 (nle.mpr h4)⟩
        · rw [if_neg h4]
          by_cases h5 : 10 < p
          · rw [if_pos h5]; exact Or.inr ⟨rfl, fun hc => absurd hc.2.2.2 (nle.mpr h5)⟩
          · rw [if_neg h5]; exact Or.inl ⟨rfl, h1, ⟨nlt.mp h2, nlt.mp h3⟩, nlt.mp h4, nlt.mp h5⟩
  · rw [if_pos (tf_neg h1)]; exact Or.inr ⟨rfl, fun hc => h1 hc.1⟩
theorem canM_eq {V : ai_V} {h : Hs} (hO : HO h) (hM : MH V h) (x n p : Int32) : (d_M_canOwe x n p V = some 1 ∧ canL h x n p) ∨ (d_M_canOwe x n p V = some 0 ∧ ¬ canL h x n p) := by
  unfold canL
  rw [d_M_canOwe, isOne_eq hO hM, bd_some]
  by_cases h1 : 0 ≤ x ∧ x < on (hm h)
  · rw [if_neg (by rw [tf_pos h1]; decide), in_eq, bd_some]
    by_cases h2 : 1 ≤ n ∧ n ≤ 12
    · rw [if_neg (by rw [tf_pos h2]; decide), in_eq, bd_some]
      by_cases h3 : 0 ≤ p ∧ p ≤ 10
      · rw [if_neg (by rw [tf_pos h3]; decide)]; exact Or.inl ⟨rfl, h1, h2, h3⟩
      · rw [if_pos (tf_neg h3)]; exact Or.inr ⟨rfl, fun hc => h3 hc.2.2⟩
    · rw [if_pos (tf_neg h2)]; exact Or.inr ⟨rfl, fun hc => h2 hc.2.1⟩
  · rw [if_pos (tf_neg h1)]; exact Or.inr ⟨rfl, fun hc => h1 hc.1⟩
theorem chg_on {h : Hs} (hO : HO h) {i : Nat} (hi : i < hm h) : ∃ c, hdu h * (hst h i + 1) = on c ∧ c < 1000 ∧ ∃ d s, hdu h = on d ∧ hst h i = on s ∧ d ≤ 9 ∧ s ≤ 5 ∧ c = d * (s + 1) := by
  obtain ⟨⟨s1, s2⟩, -⟩ := hO.2.2 i hi
  obtain ⟨d1, d2⟩ := hO.2.1
  have ed := on_of (x := hdu h) (by rw [ti_le]; exact d1)
  have es := on_of (x := hst h i) (by rw [ti_le]; exact s1)
  have nd := ti_nn (hdu h)
  have ns := ti_nn (hst h i)
  have hd9 : (hdu h).toNatClampNeg ≤ 9 := by omega
  have hs5 : (hst h i).toNatClampNeg ≤ 5 := by omega
  refine ⟨(hdu h).toNatClampNeg * ((hst h i).toNatClampNeg + 1), ?_, ?_, _, _, ed.symm, es.symm, hd9, hs5, rfl⟩
  · rw [← on_mul, ← on_s, ed, es]
  · have : (hdu h).toNatClampNeg * ((hst h i).toNatClampNeg + 1) ≤ 9 * 6 := Nat.mul_le_mul hd9 (by omega)
    omega
theorem cmp1 {a : Nat} (ha : a < 9223372036854775808) (h : a ≠ 0) : 0 ≤ lg_cmp (o6 a) (Int64.ofNat 1) := by
  unfold lg_cmp
  by_cases e : o6 a > Int64.ofNat 1
  · rw [if_pos e]; decide
  · rw [if_neg e, if_pos]
    · decide
    · have e1 : (Int64.ofNat 1).toInt = 1 := rfl
      have n1 : ¬ (Int64.ofNat 1).toInt < (o6 a).toInt := fun h => e (t6_lt.mpr h)
      rw [t6_eq]
      rw [o6_ti ha] at n1 ⊢
      omega
theorem st_owes {N : Nat} {V : ai_V} (hI : Inv N V) (hN : N < 512) (x n p : Int32) : Step N V (d_X_owes x n p) (d_M_owes x n p) := by
  obtain ⟨h, f, z, rm, nw, kc, km, hS, hn, hb⟩ := hI.k
  have hO := kc.1
  have h6 := hO.1
  rcases canC_eq kc.2.1 x n p with ⟨ec, hc⟩ | ⟨ec, hc⟩
  · obtain ⟨hx, hn1, hp1⟩ := hc
    obtain ⟨i, hi, rfl⟩ := has_on hO hx
    obtain ⟨k, rfl, k1, k2⟩ := rng n 1 12 (by omega) (by omega) hn1
    obtain ⟨q, rfl, -, q2⟩ := rng p 0 10 (by omega) (by omega) hp1
    obtain ⟨c, c1, c2, cd⟩ := chg_on hO hi
    have hSl := S_le (n := k) c2 k2 q2
    have hT := ten_le k2
    have hg : Nat.gcd (c * oU q (k - 1)) (10 ^ (k - 1)) ≠ 0 := fun h0 => by
      have := (Nat.gcd_eq_zero_iff.mp h0).2
      omega
    have hgl : Nat.gcd (c * oU q (k - 1)) (10 ^ (k - 1)) ≤ 10 ^ (k - 1) := Nat.gcd_le_right _ (by omega)
    obtain ⟨V1, e1, r1, F1⟩ := tell2 (o6 (c * oU q (k - 1) / Nat.gcd (c * oU q (k - 1)) (10 ^ (k - 1)))) (o6 (10 ^ (k - 1) / Nat.gcd (c * oU q (k - 1)) (10 ^ (k - 1)))) V
    have X : d_X_owes (on i) (on k) (on q) V = some (0, V1) := by
      have hcom : d_X_commonDivisor (o6 (c * oU q (k - 1))) (o6 (10 ^ (k - 1))) V = some (o6 (Nat.gcd (c * oU q (k - 1)) (10 ^ (k - 1)))) := C_gcd 37 _ _ 0 ai_N (by have : (2 : Nat) ^ 37 = 137438953472 := rfl; omega) (by omega) (by omega) (N_gt (by omega)) (by omega)
      rw [d_X_owes, ec, bd_some, if_pos (by decide), mean_eq hO kc.2.1 hi c1 c2 k1 k2 q2, bd_some, ten_eq k1 k2, bd_some, hcom, bd_some, if_pos (cmp1 (by omega) hg), d_X_owes_48, if_neg (fun hc => hg ((o6_0 (by omega)).mp hc)), if_neg (fun hc => hg ((o6_0 (by omega)).mp hc)), o6_div (by omega) (by omega), o6_div (by omega) (by omega), e1]; rfl
    have F1' : Fr w_X_owes V V1 := fr_X_owes _ _ _ _ _ X
    have K1 := (km.fr F1' rfl).s14 0
    obtain ⟨W1, g1, j1, j2, G1⟩ := findOwed_eq hO K1.2.1 hi c1 cd c2 k1 k2 q2
    obtain ⟨W2, g2, r2, G2⟩ := m_tell (m_row0 W1) (by simp) (o6 (c * oU q (k - 1) / Nat.gcd (c * oU q (k - 1)) (10 ^ (k - 1))))
    obtain ⟨W3, g3, r3, G3⟩ := m_tell r2 (by simp) (o6 (10 ^ (k - 1) / Nat.gcd (c * oU q (k - 1)) (10 ^ (k - 1))))
    have j2' : gj W2 89 57 = o6 (10 ^ (k - 1) / Nat.gcd (c * oU q (k - 1)) (10 ^ (k - 1))) := by rw [G2.gj 89 57 rfl, gj_si, j2]
    have M : d_M_owes (on i) (on k) (on q) V1 = some (0, W3) := by
      rcases canM_eq hO K1.2.1 (on i) (on k) (on q) with ⟨em, -⟩ | ⟨-, hc⟩
      · rw [d_M_owes, em, bd_some, if_pos (by decide), g1, bd_some, gj_si, j1, g2, bd_some, j2', g3]; rfl
      · exact absurd ⟨hx, hn1, hp1⟩ hc
    have F2 : Fr w_M_owes V1 W3 := fr_M_owes _ _ _ _ _ M
    exact ⟨_, V1, W3, X, M, hI.qq F1' F2 rfl rfl rfl rfl (o := some _) (fun r hr => by obtain rfl := Option.some.inj hr; simp) r1 r3 (hI.x.fr2 F1' F2 rfl rfl)⟩
  · refine ⟨-1, V, si V 89 14 0, ?_, ?_, hI.no 0⟩
    · rw [d_X_owes, ec, bd_some, if_neg (fun hn => hn rfl)]
    · rcases canM_eq hO (km.s14 0).2.1 x n p with ⟨-, hc'⟩ | ⟨em, -⟩
      · exact absurd hc' hc
      · rw [d_M_owes, em, bd_some, if_neg (fun hn => hn rfl)]
/-- begun ones of a fraction in lowest terms are those of the fraction -/
theorem up_eq {S L g : Nat} (hg : 0 < g) (h1 : g ∣ S) (h2 : g ∣ L) (hL : 0 < L) : (S / g + L / g - 1) / (L / g) = (S + L - 1) / L := by
  obtain ⟨s, rfl⟩ := h1
  obtain ⟨l, rfl⟩ := h2
  rw [Nat.mul_div_cancel_left _ hg, Nat.mul_div_cancel_left _ hg]
  have hl : 0 < l := Nat.pos_of_mul_pos_left hL
  symm
  have a1 := Nat.div_mul_le_self (s + l - 1) l
  have a2 := Nat.lt_div_mul_add hl (a := s + l - 1)
  generalize (s + l - 1) / l = C at *
  apply Nat.div_eq_of_lt_le
  · have h3 : g * (C * l) ≤ g * (s + l - 1) := Nat.mul_le_mul_left _ a1
    have h4 : g * (C * l) = C * (g * l) := by rw [← Nat.mul_assoc, Nat.mul_comm g C, Nat.mul_assoc]
    have h5 : g * (s + l - 1) = g * s + g * l - g := by rw [Nat.mul_sub, Nat.mul_add, Nat.mul_one]
    omega
  · have h3 : g * (s + l) ≤ g * (C * l + l) := Nat.mul_le_mul_left _ (by omega)
    have h4 : g * (C * l + l) = (C + 1) * (g * l) := by rw [Nat.mul_add, ← Nat.mul_assoc, Nat.mul_comm g C, Nat.mul_assoc, Nat.succ_mul]
    have h5 : g * (s + l) = g * s + g * l := Nat.mul_add _ _ _
    omega
theorem td_shift {S L : Nat} {D : Int} (hL : 0 < L) : td ((S : Int) + D * L) L = max 0 (((S + L - 1) / L : Nat) + D) := by
  have a1 := Nat.div_mul_le_self (S + L - 1) L
  have a2 := Nat.lt_div_mul_add hL (a := S + L - 1)
  have hq : (((S + L - 1) / L : Nat) : Int) = ((S : Int) + L - 1) / L := by
    rw [Int.natCast_ediv]; congr 1; omega
  unfold td
  have e1 : (S : Int) + D * L + L - 1 = ((S : Int) + L - 1) + D * L := by omega
  rw [e1, Int.add_mul_ediv_right _ _ (by omega), ← hq]
  generalize (S + L - 1) / L = C at *
  have c1 : (C : Int) * L ≤ S + L - 1 := by have : ((C * L : Nat) : Int) ≤ ((S + L - 1 : Nat) : Int) := by exact_mod_cast a1
                                            rw [Int.natCast_mul] at this; omega
  have c2 : (S : Int) + L - 1 < C * L + L := by have : ((S + L - 1 : Nat) : Int) < ((C * L + L : Nat) : Int) := by exact_mod_cast a2
                                                rw [Int.natCast_add, Int.natCast_mul] at this; omega
  have e2 : ((C : Int) + D) * L = C * L + D * L := Int.add_mul _ _ _
  by_cases e : (S : Int) + D * L ≤ 0
  · rw [if_pos e]
    have : (C : Int) + D ≤ 0 := by
      apply Classical.byContradiction
      intro hn
      have h1 : 1 * (L : Int) ≤ ((C : Int) + D) * L := Int.mul_le_mul_of_nonneg_right (by omega) (by omega)
      omega
    omega
  · rw [if_neg e]
    have : 0 < (C : Int) + D := by
      apply Classical.byContradiction
      intro hn
      have h1 : ((C : Int) + D) * L ≤ 0 * L := Int.mul_le_mul_of_nonneg_right (by omega) (by omega)
      omega
    omega
theorem st_fund {N : Nat} {V : ai_V} (hI : Inv N V) (hN : N < 512) (x n p : Int32) : Step N V (d_X_fund x n p) (d_M_fund x n p) := by
  obtain ⟨h, f, z, rm, nw, kc, km, hS, hn, hb⟩ := hI.k
  have hO := kc.1
  have h6 := hO.1
  rcases canC_eq kc.2.1 x n p with ⟨ec, hc⟩ | ⟨ec, hc⟩
  · obtain ⟨hx, hn1, hp1⟩ := hc
    obtain ⟨i, hi, rfl⟩ := has_on hO hx
    obtain ⟨k, rfl, k1, k2⟩ := rng n 1 12 (by omega) (by omega) hn1
    obtain ⟨q, rfl, -, q2⟩ := rng p 0 10 (by omega) (by omega) hp1
    obtain ⟨c, c1, c2, cd⟩ := chg_on hO hi
    obtain ⟨-, ⟨p1, p2⟩, -⟩ := hO.2.2 i hi
    have hSl := S_le (n := k) c2 k2 q2
    have hT := ten_le k2
    have hg : Nat.gcd (c * oU q (k - 1)) (10 ^ (k - 1)) ≠ 0 := fun h0 => by
      have := (Nat.gcd_eq_zero_iff.mp h0).2
      omega
    have hgl : Nat.gcd (c * oU q (k - 1)) (10 ^ (k - 1)) ≤ 10 ^ (k - 1) := Nat.gcd_le_right _ (by omega)
    have hzt : z.1.toInt = nw := by rw [hn, on_ti (by omega)]
    have hD := (hS.1.2.2 i (by omega)).1
    rw [hzt] at hD
    have hmean := mean_eq hO kc.2.1 hi c1 c2 k1 k2 q2
    have hgd1 : Nat.gcd (c * oU q (k - 1)) (10 ^ (k - 1)) ∣ c * oU q (k - 1) := Nat.gcd_dvd_left _ _
    have hgd2 : Nat.gcd (c * oU q (k - 1)) (10 ^ (k - 1)) ∣ 10 ^ (k - 1) := Nat.gcd_dvd_right _ _
    generalize hDD : z.2.2.1 i = D at *
    generalize hSS : c * oU q (k - 1) = S at *
    have ht10 := ten_eq (V := V) k1 k2
    generalize hLL : 10 ^ (k - 1) = L at *
    generalize hGG : Nat.gcd S L = g at *
    -- the turns
    have hDL : -400000000000000000 ≤ D.toInt * L ∧ D.toInt * L ≤ 400000000000000000 := by
      have hd1 : -2000000 ≤ D.toInt := by omega
      have hd2 : D.toInt ≤ 2000000 := by omega
      have a1 : D.toInt * (L : Int) ≤ 2000000 * (L : Int) := Int.mul_le_mul_of_nonneg_right hd2 (by omega)
      have a2 : (-2000000) * (L : Int) ≤ D.toInt * (L : Int) := Int.mul_le_mul_of_nonneg_right hd1 (by omega)
      omega
    have hmulL : (D.toInt64 * o6 L).toInt = D.toInt * L := by
      rw [t6_mul (by rw [t6_of, o6_ti (by omega)]; omega) (by rw [t6_of, o6_ti (by omega)]; omega), t6_of, o6_ti (by omega)]
    have hup : (o6 S + D.toInt64 * o6 L).toInt = (S : Int) + D.toInt * L := by
      rw [t6_add (by rw [hmulL, o6_ti (by omega)]; omega) (by rw [hmulL, o6_ti (by omega)]; omega), hmulL, o6_ti (by omega)]
    obtain ⟨Q, eQ, tQ⟩ := qUp (V := V) (a := o6 S + D.toInt64 * o6 L) (b := o6 L) (by rw [o6_ti (by omega)]; omega) (by rw [o6_ti (by omega)]; omega) (by rw [hup]; omega)
    rw [hup, o6_ti (by omega), td_shift (by omega)] at tQ
    have hC : (S + L - 1) / L < 10000000000000000 := Nat.lt_of_le_of_lt (Nat.div_le_self _ _) (by omega)
    have hC2 : (S + L - 1) / L ≤ 20000 := by
      apply Nat.div_le_of_le_mul
      have h1 := (oU_le q2 (k - 1)).1
      have h2 : c * oU q (k - 1) ≤ 1000 * ((k - 1 + 1) * 10 ^ (k - 1)) := Nat.mul_le_mul (by omega) h1
      rw [hSS, hLL, show k - 1 + 1 = k by omega] at h2
      have h3 : k * L ≤ 12 * L := Nat.mul_le_mul_right _ k2
      have h4 : 1000 * (k * L) ≤ 1000 * (12 * L) := Nat.mul_le_mul_left _ h3
      omega
    generalize hCC : (S + L - 1) / L = C at *
    have hQ32 : Q.toInt32.toInt = max 0 ((C : Int) + D.toInt) := by rw [t6_32 (by omega) (by omega), tQ]
    obtain ⟨v, ev, tv⟩ := treadsFor_eq hO kc.2.1 hi Q.toInt32
    obtain ⟨V1, e1, r1, F1⟩ := tell1 v.toInt64 V
    have X : d_X_fund (on i) (on k) (on q) V = some (Q.toInt32, V1) := by
      have hd17 : ga V 17 i = D := by rw [(hS.2.1.2.2 i (by omega)).1, hDD]
      rw [d_X_fund, ec, bd_some, if_pos (by decide), ht10, bd_some, hmean, bd_some, if_pos (by rw [on_in (by omega)]; omega), on_nn (by omega), hd17, eQ, bd_some, ev, bd_some, e1]; rfl
    have F1' : Fr w_X_fund V V1 := fr_X_fund _ _ _ _ _ X
    have K1 := (km.fr F1' rfl).s14 0
    obtain ⟨W1, w1, j1, j2, G1⟩ := findOwed_eq hO K1.2.1 hi c1 cd c2 k1 k2 q2
    rw [hSS, hLL, hGG] at j1 j2
    have hLg : L / g ≠ 0 := by
      have := Nat.div_pos hgl (by omega)
      omega
    have hle1 : L / g ≤ L := Nat.div_le_self _ _
    have hle2 : S / g ≤ S := Nat.div_le_self _ _
    have hd90 : ga W1 90 i = D := by
      have := (hS.2.2.1.2.2 i (by omega)).1
      rw [Nat.zero_add, hDD] at this
      rw [G1.ga 90 rfl, ga_si, F1'.ga 90 rfl]; exact this
    have hp92 : ga (si W1 89 13 0) 92 i = hpc h i := by rw [ga_si, G1.ga 92 rfl]; exact congrFun K1.2.1.2.2.2.2.1 i
    have hval : (o6 (S / g) + o6 (L / g) - Int64.ofNat 1) / o6 (L / g) = o6 C := by
      rw [o6_add, show Int64.ofNat 1 = o6 1 from rfl, o6_sub (Nat.le_trans (Nat.pos_of_ne_zero hLg) (Nat.le_add_left _ _)), o6_div (Nat.lt_of_le_of_lt (Nat.sub_le _ _) (Nat.lt_of_le_of_lt (Nat.add_le_add hle2 hle1) (by omega))) (Nat.lt_of_le_of_lt hle1 (by omega)), up_eq (by omega) hgd1 hgd2 (by omega), hCC]
    have hsum : (o6 C + D.toInt64).toInt = (C : Int) + D.toInt := by rw [t6_add (by rw [t6_of, o6_ti (by omega)]; omega) (by rw [t6_of, o6_ti (by omega)]; omega), t6_of, o6_ti (by omega)]
    have hmax : (ai_maxL (Int64.ofNat 0) (o6 C + D.toInt64)).toInt = max 0 ((C : Int) + D.toInt) := by
      unfold ai_maxL
      have e0 : (Int64.ofNat 0).toInt = 0 := rfl
      by_cases e : o6 C + D.toInt64 < Int64.ofNat 0
      · rw [if_pos e]; rw [t6_lt, hsum] at e; omega
      · rw [if_neg e]; rw [t6_lt, hsum] at e; omega
    have hT32 : (ai_maxL (Int64.ofNat 0) (o6 C + D.toInt64)).toInt32 = Q.toInt32 := by
      rw [ti_eq, hQ32, t6_32 (by rw [hmax]; omega) (by rw [hmax]; omega), hmax]
    have hv2 : (Q.toInt32 + hpc h i - 1) / hpc h i = v := by
      have := tdM (o := Q.toInt32) p1 p2 (by rw [hQ32]; omega)
      have hm : ai_max 0 Q.toInt32 = Q.toInt32 := by
        rw [ti_eq, ai_max_ti]
        have e0 : (0 : Int32).toInt = 0 := rfl
        omega
      rw [hm] at this
      rw [ti_eq, this, tv]
    obtain ⟨W2, w2, r2, G2⟩ := m_tell (m_row0 W1) (by simp) v.toInt64
    have M : d_M_fund (on i) (on k) (on q) V1 = some (Q.toInt32, W2) := by
      rcases canM_eq hO K1.2.1 (on i) (on k) (on q) with ⟨em, -⟩ | ⟨-, hc⟩
      · have hin : ai_in (on i) 6 := by rw [on_in (by omega)]; omega
        have hin' : ai_in (on i) 14 := by rw [on_in (by omega)]; omega
        rw [d_M_fund, em, bd_some, if_pos (by decide), w1, bd_some, j1, j2, if_neg (fun hc => hLg ((o6_0 (by omega)).mp hc)), if_pos hin', if_pos hin, if_pos hin, on_nn (by omega), hd90, hp92, hval, hT32, hv2, if_neg (fun e => by rw [e] at p1; exact absurd p1 (by decide)), w2]; rfl
      · exact absurd ⟨hx, hn1, hp1⟩ hc
    have F2 : Fr w_M_fund V1 W2 := fr_M_fund _ _ _ _ _ M
    exact ⟨_, V1, W2, X, M, hI.qq F1' F2 rfl rfl rfl rfl (o := some _) (fun r hr => by obtain rfl := Option.some.inj hr; simp) r1 r2 (hI.x.fr2 F1' F2 rfl rfl)⟩
  · refine ⟨-1, V, si V 89 14 0, ?_, ?_, hI.no 0⟩
    · rw [d_X_fund, ec, bd_some, if_neg (fun hn => hn rfl)]
    · rcases canM_eq hO (km.s14 0).2.1 x n p with ⟨-, hc'⟩ | ⟨em, -⟩
      · exact absurd hc' hc
      · rw [d_M_fund, em, bd_some, if_neg (fun hn => hn rfl)]
