/-! ===== values: the class takes the digits ===== -/
theorem vR_none {T : Nat → Int32} {n k : Nat} : ∀ (f p : Nat), vR T n k f p = none → (∀ p', p ≤ p' → p' < k * (k + 1) - 1 → p' < n ∧ ((p' % (k + 1) = k ∧ T p' = 47) ∨ (p' % (k + 1) ≠ k ∧ btw (T p') 48 57))) ∧ (p ≤ k * (k + 1) - 1 → n ≤ k * (k + 1) - 1) := by
  intro f
  induction f with
  | zero => intro p h; cases h
  | succ f ih =>
    intro p h
    rw [vR] at h
    by_cases hl : k * (k + 1) - 1 ≤ p
    · rw [if_pos hl] at h
      by_cases e : n ≤ p
      · exact ⟨fun p' h1 h2 => by omega, fun h1 => by omega⟩
      · rw [if_neg e] at h; cases h
    · rw [if_neg hl] at h
      by_cases e : p < n ∧ ((p % (k + 1) = k ∧ T p = 47) ∨ (p % (k + 1) ≠ k ∧ btw (T p) 48 57))
      · rw [if_pos e] at h
        obtain ⟨a, b⟩ := ih (p + 1) h
        refine ⟨fun p' h1 h2 => ?_, fun _ => b (by omega)⟩
        by_cases ep : p' = p
        · rw [ep]; exact e
        · exact a p' (by omega) h2
      · rw [if_neg e] at h; cases h
/-- a table of k that is well told -/
def vGood (T : Nat → Int32) (n k : Nat) : Prop := (k = 2 ∨ k = 3 ∨ k = 4) ∧ n = k * (k + 1) - 1 ∧ ∀ p, p < n → (p % (k + 1) = k ∧ T p = 47) ∨ (p % (k + 1) ≠ k ∧ btw (T p) 48 57)
theorem vGood_of {T : Nat → Int32} {n : Nat} (h2 : 2 ≤ wcn T n 4 0) (h : vR T n (wcn T n 4 0) 81 (wcn T n 4 0) = none) : vGood T n (wcn T n 4 0) := by
  have w4 := wcn_le T n 4 0
  have wd := wcn_dig T n 4 0
  have we := wcn_end T n 4 0 (by omega)
  generalize wcn T n 4 0 = k at *
  obtain ⟨a, b⟩ := vR_none 81 k h
  have hk : k = 2 ∨ k = 3 ∨ k = 4 := by omega
  have hlen : k < k * (k + 1) - 1 := by
    rcases hk with rfl | rfl | rfl <;> omega
  have hn : n = k * (k + 1) - 1 := by
    have h1 := b (by omega)
    have h3 := (a (k * (k + 1) - 1 - 1) (by omega) (by omega)).1
    omega
  refine ⟨hk, hn, fun p hp => ?_⟩
  by_cases e : p < k
  · have := wd p e
    rw [Nat.zero_add] at this
    refine Or.inr ⟨?_, this⟩
    rw [Nat.mod_eq_of_lt (by omega)]; omega
  · exact (a p (by omega) (by omega)).2
theorem take_dig {V0 : ai_V} {n k : Nat} (hn : n ≤ 80) (h1 : gi V0 1 1 = on n) (g : vGood (ga V0 2) n k) : ∀ (r p q c : Nat) (V : ai_V), n - p = r → p ≤ n → n - p < q → c = p - p / (k + 1) → Fr ([(72, 0)], [75]) V0 V → (∀ i j, i < k → j < k → i * (k + 1) + j < p → ga V 75 (i * k + j) = ga V0 2 (i * (k + 1) + j) - 48) →
    ∃ V', d_Worths_takeDigits_10 q (on c) (on p) V = some V' ∧ (∀ i j, i < k → j < k → ga V' 75 (i * k + j) = ga V0 2 (i * (k + 1) + j) - 48) ∧ Fr ([], [75]) V V' := by
  obtain ⟨hk, hlen, hg⟩ := g
  intro r
  induction r with
  | zero =>
    intro p q c V hr hp hq hc F hd
    obtain ⟨q, rfl⟩ : ∃ q', q = q' + 1 := ⟨q - 1, by omega⟩
    refine ⟨V, ?_, fun i j hi hj => hd i j hi hj ?_, Fr.rf⟩
    · rw [d_Worths_takeDigits_10, F.gi 1 1 rfl, h1, if_pos (by rw [on_le (by omega) (by omega)]; omega)]
    · rcases hk with rfl | rfl | rfl <;> omega
  | succ r ih =>
    intro p q c V hr hp hq hc F hd
    obtain ⟨q, rfl⟩ : ∃ q', q = q' + 1 := ⟨q - 1, by omega⟩
    have T0 : ga V 2 = ga V0 2 := F.ga 2 rfl
    have h1' : gi V 1 1 = on n := by rw [F.gi 1 1 rfl]; exact h1
    rw [d_Worths_takeDigits_10, h1', if_neg (by rw [on_le (by omega) (by omega)]; omega), at_y hn h1' (by omega), bd_some, T0]
    rcases hg p (by omega) with ⟨u1, u2⟩ | ⟨u1, u2⟩
    · rw [(dig_eq (ga V0 2 p) V).2 (by rw [u2]; decide), bd_some, if_pos rfl, d_Worths_takeDigits_58, on_s]
      refine ih (p + 1) q c V (by omega) (by omega) (by omega) ?_ F (fun i j hi hj hlt => hd i j hi hj ?_)
      · rcases hk with rfl | rfl | rfl <;> omega
      · rcases hk with rfl | rfl | rfl <;> omega
    · have c16 : c < 16 := by
        rcases hk with rfl | rfl | rfl <;> omega
      rw [(dig_eq (ga V0 2 p) V).1 u2, bd_some, if_neg (by decide), if_neg (by rw [show Int32.ofNat 16 = on 16 from rfl, on_le (by omega) (by omega)]; omega), bd_some, if_pos (by rw [on_in (by omega)]; omega), on_nn (by omega), d_Worths_takeDigits_58, on_s, on_s]
      obtain ⟨V', e', d', F'⟩ := ih (p + 1) q (c + 1) (sa V 75 c (ga V0 2 p - 48)) (by omega) (by omega) (by omega) (by rcases hk with rfl | rfl | rfl <;> omega) (Fr.sa F rfl) (fun i j hi hj hlt => by
        rw [ga_sa]
        by_cases e : i * (k + 1) + j = p
        · rw [if_pos ⟨rfl, by rcases hk with rfl | rfl | rfl <;> omega⟩, e]
        · rw [if_neg (fun hc2 => by rcases hk with rfl | rfl | rfl <;> omega)]
          exact hd i j hi hj (by omega))
      exact ⟨V', e', d', Fr.tr (Fr.sa Fr.rf rfl) F' rfl⟩
theorem X_dig {V : ai_V} {n k : Nat} (hn : n ≤ 80) (h1 : gi V 1 1 = on n) (g : vGood (ga V 2) n k) : ∃ V', d_Worths_takeDigits (on k) V = some V' ∧ gi V' 72 0 = on k ∧ (∀ i j, i < k → j < k → ga V' 75 (i * k + j) = ga V 2 (i * (k + 1) + j) - 48) ∧ Fr ([(72, 0)], [75]) V V' := by
  have F0 : Fr ([(72, 0)], [75]) V (si V 72 0 (on k)) := Fr.si Fr.rf rfl
  obtain ⟨V', e, d, F⟩ := take_dig hn h1 g n 0 ai_N 0 (si V 72 0 (on k)) (by omega) (by omega) (N_gt (by omega)) (by simp) F0 (fun i j _ _ h => by omega)
  exact ⟨V', e, by rw [F.gi 72 0 rfl, gi_si, if_pos ⟨rfl, rfl⟩], d, Fr.tr F0 F rfl⟩
