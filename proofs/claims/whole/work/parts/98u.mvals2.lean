/-! ===== values: the model's rows ===== -/
def dV (T : Nat → Int32) (V : ai_V) (k i j : Nat) : Prop := ∀ i' j', i' < k → j' < k → (i' < i ∨ (i' = i ∧ j' < j)) → ga V 108 (4 * i' + j') = T (i' * (k + 1) + j') - 48
theorem v99_g {T : Nat → Int32} {F : Int32 → Int32 → ai_V → Option (Int32 × ai_V)} {n k i : Nat} (hn : n ≤ 80) (hk : k = 2 ∨ k = 3 ∨ k = 4) (hi : i < k) : ∀ (c j q f : Nat) (V : ai_V), j + c = k → MT V n 80 (i * (k + 1) + j) → TX V T → dV T V k i j → c < q → k * (k + 1) - 1 - (i * (k + 1) + j) < f →
    ∃ V', d_M_values_99 F q (on k) (on i) (on j) V = F (on k) (on (i + 1)) V' ∧ Fr wVa V V' ∧ ((MT V' n 80 (i * (k + 1) + k) ∧ dV T V' k (i + 1) 0 ∧ ∃ f', k * (k + 1) - 1 - (i * (k + 1) + k) < f' ∧ vR T n k f (i * (k + 1) + j) = vR T n k f' (i * (k + 1) + k)) ∨ (∃ p, p < 1000 ∧ gi V' 89 19 = on p ∧ vR T n k f (i * (k + 1) + j) = some p)) := by
  have k4 : k ≤ 4 := by omega
  intro c
  induction c with
  | zero =>
    intro j q f V hj h t hd hq hf
    obtain ⟨q, rfl⟩ : ∃ q', q = q' + 1 := ⟨q - 1, by omega⟩
    have hjk : j = k := by omega
    subst hjk
    refine ⟨V, ?_, Fr.rf, Or.inl ⟨h, fun i' j' a b hlt => hd i' j' a b (by omega), f, hf, rfl⟩⟩
    rw [d_M_values_99, if_pos (Int32.le_refl _), on_s]
  | succ c ih =>
    intro j q f V hj h t hd hq hf
    obtain ⟨q, rfl⟩ : ∃ q', q = q' + 1 := ⟨q - 1, by omega⟩
    obtain ⟨f, rfl⟩ : ∃ f', f = f' + 1 := ⟨f - 1, by omega⟩
    have e4 : (4 : Int32) * on i + on j = on (4 * i + j) := by rw [show (4 : Int32) = on 4 from rfl, on_mul, on_add]
    have hP : i * (k + 1) + j < 100 := by
      rcases hk with rfl | rfl | rfl <;> omega
    have hmod : (i * (k + 1) + j) % (k + 1) ≠ k := by
      rcases hk with rfl | rfl | rfl <;> omega
    have hlen : ¬ k * (k + 1) - 1 ≤ i * (k + 1) + j := by
      rcases hk with rfl | rfl | rfl <;> omega
    have E : ∀ r : Int32 × ai_V, d_M_digit 0 9 V = some r → d_M_values_99 F (q + 1) (on k) (on i) (on j) V = d_M_values_99 F q (on k) (on i) (on (j + 1)) (sa r.2 108 (4 * i + j) r.1) := by
      intro r hr
      rw [d_M_values_99, if_neg (by rw [on_le (by omega) (by omega)]; omega), hr, bd_some, e4, if_pos (by rw [on_in (by omega)]; omega), on_nn (by omega), on_s]
    by_cases g : i * (k + 1) + j < n ∧ btw (T (i * (k + 1) + j)) 48 57
    · have D := digit_y (x := 0) (y := 9) (a := 48) (b := 57) hn (by omega) h t g.1 (by omega) rfl rfl g.2 (by decide)
      have F1 : Fr wVa V (sa (si V 89 18 (on (i * (k + 1) + j + 1))) 108 (4 * i + j) (T (i * (k + 1) + j) - 48)) := Fr.sa (Fr.si Fr.rf rfl) rfl
      have h' : MT (sa (si V 89 18 (on (i * (k + 1) + j + 1))) 108 (4 * i + j) (T (i * (k + 1) + j) - 48)) n 80 (i * (k + 1) + (j + 1)) := (h.go (i * (k + 1) + (j + 1))).fr (w := ([], [108])) (Fr.sa Fr.rf rfl) rfl
      obtain ⟨V', e', F', R'⟩ := ih (j + 1) q f _ (by omega) h' (t.fr F1 rfl) (fun i' j' a b hlt => by
        rw [ga_sa, ga_si]
        by_cases e : i' = i ∧ j' = j
        · rw [if_pos ⟨rfl, by omega⟩, e.1, e.2]
        · rw [if_neg (by omega)]
          exact hd i' j' a b (by omega)) (by omega) (by omega)
      refine ⟨V', (E _ D).trans e', Fr.tr F1 F' rfl, ?_⟩
      rw [vR, if_neg hlen, if_pos ⟨g.1, Or.inr ⟨hmod, g.2⟩⟩]
      exact R'
    · have D := digit_n (x := 0) (y := 9) (a := 48) (b := 57) hn (show 80 < 100000 by omega) (by omega) h t rfl rfl (fun a b hc => g ⟨a, hc⟩) (by decide)
      obtain ⟨V', e', g', F'⟩ := v99_f (F := F) (k := k) (i := i) (p := i * (k + 1) + j) k4 (by omega) (by omega) c (j + 1) q (sa (si V 89 19 (on (i * (k + 1) + j))) 108 (4 * i + j) 0) (by omega) (by rw [gi_sa, gi_si, if_pos ⟨rfl, rfl⟩]) (by omega)
      refine ⟨V', (E _ D).trans e', Fr.tr (Fr.sa (Fr.si Fr.rf rfl) rfl) F' rfl, Or.inr ⟨i * (k + 1) + j, by omega, g', ?_⟩⟩
      rw [vR, if_neg hlen, if_neg (fun hc => ?_)]
      rcases hc.2 with u | u
      · exact hmod u.1
      · exact g ⟨hc.1, u.2⟩
theorem v86_g {T : Nat → Int32} {n k : Nat} (hn : n ≤ 80) (hk : k = 2 ∨ k = 3 ∨ k = 4) : ∀ (d i q f : Nat) (V : ai_V), i + d = k → 1 ≤ i → MT V n 80 (i * (k + 1) - 1) → TX V T → dV T V k i 0 → d < q → k * (k + 1) - 1 - (i * (k + 1) - 1) < f →
    ∃ V', Fr wVa V V' ∧ match vR T n k f (i * (k + 1) - 1) with
      | none => d_M_values_86 q (on k) (on i) V = d_M_values_152 (on k) V' ∧ gi V' 89 19 = -1 ∧ dV T V' k k 0
      | some p => d_M_values_86 q (on k) (on i) V = some (-1 - on p, V') := by
  have k4 : k ≤ 4 := by omega
  intro d
  induction d with
  | zero =>
    intro i q f V hi h1 h t hd hq hf
    obtain ⟨q, rfl⟩ : ∃ q', q = q' + 1 := ⟨q - 1, by omega⟩
    obtain ⟨f, rfl⟩ : ∃ f', f = f' + 1 := ⟨f - 1, by omega⟩
    have hik : i = k := by omega
    subst hik
    have hP : i * (i + 1) - 1 < 100 := by
      rcases hk with rfl | rfl | rfl <;> omega
    rw [vR, if_pos (Nat.le_refl _), d_M_values_86, if_pos (Int32.le_refl _), h.2.1, h.2.2.2.1]
    by_cases e : n ≤ i * (i + 1) - 1
    · rw [if_pos e, if_pos (by rw [on_le (by omega) (by omega)]; exact e)]
      exact ⟨V, Fr.rf, rfl, h.2.2.2.2, hd⟩
    · rw [if_neg e, if_neg (by rw [on_le (by omega) (by omega)]; exact e), fault_y h.2.2.2.2, bd_some]
      exact ⟨si V 89 19 (on (i * (i + 1) - 1)), Fr.si Fr.rf rfl, v152_f (by rw [gi_si, if_pos ⟨rfl, rfl⟩]) (by omega) _⟩
  | succ d ih =>
    intro i q f V hi h1 h t hd hq hf
    obtain ⟨q, rfl⟩ : ∃ q', q = q' + 1 := ⟨q - 1, by omega⟩
    obtain ⟨f, rfl⟩ : ∃ f', f = f' + 1 := ⟨f - 1, by omega⟩
    have hP : i * (k + 1) - 1 < 100 := by
      rcases hk with rfl | rfl | rfl <;> omega
    have hP1 : i * (k + 1) - 1 + 1 = i * (k + 1) + 0 := by
      rcases hk with rfl | rfl | rfl <;> omega
    have hPk : i * (k + 1) + k = (i + 1) * (k + 1) - 1 := by
      rcases hk with rfl | rfl | rfl <;> omega
    have hmod : (i * (k + 1) - 1) % (k + 1) = k := by
      rcases hk with rfl | rfl | rfl <;> omega
    have hlen : ¬ k * (k + 1) - 1 ≤ i * (k + 1) - 1 := by
      rcases hk with rfl | rfl | rfl <;> omega
    have E : ∀ W : ai_V, d_M_need 47 V = some W → d_M_values_86 (q + 1) (on k) (on i) V = d_M_values_99 (d_M_values_86 q) ai_N (on k) (on i) (on 0) W := by
      intro W hW
      rw [d_M_values_86, if_neg (by rw [on_le (by omega) (by omega)]; omega), hW, bd_some]; rfl
    by_cases g : i * (k + 1) - 1 < n ∧ T (i * (k + 1) - 1) = 47
    · have ND := need_y (c := 47) hn (show 80 < 100000 by omega) h t g.1 (by omega) g.2
      rw [hP1] at ND
      have F1 : Fr wVa V (si V 89 18 (on (i * (k + 1) + 0))) := Fr.si Fr.rf rfl
      obtain ⟨V1, e1, Fa, R⟩ := v99_g (T := T) (F := d_M_values_86 q) (i := i) hn hk (by omega) k 0 ai_N f (si V 89 18 (on (i * (k + 1) + 0))) (by omega) (h.go _) (t.fr F1 rfl) hd (N_gt (by omega)) (by omega)
      rw [vR, if_neg hlen, if_pos ⟨g.1, Or.inl ⟨hmod, g.2⟩⟩, hP1, (E _ ND).trans e1]
      rcases R with ⟨m1, d1, f', hf', hv⟩ | ⟨p, hp, gp, hv⟩
      · rw [hv]
        rw [hPk] at m1 hf' ⊢
        obtain ⟨V2, F2, R2⟩ := ih (i + 1) q f' V1 (by omega) (by omega) m1 (t.fr (Fr.tr F1 Fa rfl) rfl) d1 (by omega) hf'
        exact ⟨V2, Fr.tr (Fr.tr F1 Fa rfl) F2 rfl, R2⟩
      · rw [hv]
        obtain ⟨V2, e2, F2⟩ := v86_f (k := k) (p := p) k4 hp d (i + 1) q V1 (by omega) (by omega) gp (by omega)
        exact ⟨V2, Fr.tr (Fr.tr F1 Fa rfl) F2 rfl, e2⟩
    · have ND := need_n (c := 47) hn (show 80 < 100000 by omega) (by omega) h t (fun a b hc => g ⟨a, hc⟩) (by decide)
      obtain ⟨V1, e1, g1, Fa⟩ := v99_f (F := d_M_values_86 q) (k := k) (i := i) (p := i * (k + 1) - 1) k4 (by omega) (by omega) k 0 ai_N (si V 89 19 (on (i * (k + 1) - 1))) (by omega) (by rw [gi_si, if_pos ⟨rfl, rfl⟩]) (N_gt (by omega))
      obtain ⟨V2, e2, F2⟩ := v86_f (k := k) (p := i * (k + 1) - 1) k4 (by omega) d (i + 1) q V1 (by omega) (by omega) g1 (by omega)
      have hv : vR T n k (f + 1) (i * (k + 1) - 1) = some (i * (k + 1) - 1) := by
        rw [vR, if_neg hlen, if_neg (fun hc => ?_)]
        rcases hc.2 with u | u
        · exact g ⟨hc.1, u.2⟩
        · exact u.1 hmod
      rw [hv, (E _ ND).trans e1]
      exact ⟨V2, Fr.tr (Fr.tr (Fr.si Fr.rf rfl) Fa rfl) F2 rfl, e2⟩
