/-! ===== values ===== -/
theorem vR_rng {T : Nat → Int32} {n k : Nat} : ∀ (f p : Nat) {e : Nat}, vR T n k f p = some e → e ≤ p + f := by
  intro f
  induction f with
  | zero => intro p e h; have := Option.some.inj h; omega
  | succ f ih =>
    intro p e h
    rw [vR] at h
    by_cases hl : k * (k + 1) - 1 ≤ p
    · rw [if_pos hl] at h
      by_cases c : n ≤ p
      · rw [if_pos c] at h; cases h
      · rw [if_neg c] at h; have := Option.some.inj h; omega
    · rw [if_neg hl] at h
      by_cases c : p < n ∧ ((p % (k + 1) = k ∧ T p = 47) ∨ (p % (k + 1) ≠ k ∧ btw (T p) 48 57))
      · rw [if_pos c] at h; have := ih (p + 1) h; omega
      · rw [if_neg c] at h; have := Option.some.inj h; omega
theorem v26 {T : Nat → Int32} {n : Nat} (hn : n ≤ 80) : ∀ (c j q : Nat) (V : ai_V), j + c = 4 → j ≤ n → MT V n 80 j → TX V T → (∀ i, i < j → ga V 108 i = T i - 48) → c < q →
    ∃ V', d_M_values_26 q (on j) V = d_M_values_71 (on (j + wcn T n c j)) V' ∧ MT V' n 80 (j + wcn T n c j) ∧ (∀ i, i < j + wcn T n c j → ga V' 108 i = T i - 48) ∧ Fr wVa V V' := by
  intro c
  induction c with
  | zero =>
    intro j q V hj hjn h t hd hq
    obtain ⟨q, rfl⟩ : ∃ q', q = q' + 1 := ⟨q - 1, by omega⟩
    have hj4 : j = 4 := by omega
    subst hj4
    refine ⟨V, ?_, h, hd, Fr.rf⟩
    rw [d_M_values_26, fine_y h.2.2.2.2, bd_some, if_neg (by decide)]
    by_cases e : 4 < n
    · rw [here_y hn (by omega) h t e (by omega), bd_some, in_eq, bd_some]
      by_cases g : (48 : Int32) ≤ T 4 ∧ T 4 ≤ 57
      · rw [if_neg (by rw [tf_pos g]; decide), if_pos (by decide)]; rfl
      · rw [if_pos (tf_neg g)]; rfl
    · rw [here_n hn (by omega) (by omega) h (by omega), bd_some, in_eq, bd_some, if_pos (tf_neg (by decide))]; rfl
  | succ c ih =>
    intro j q V hj hjn h t hd hq
    obtain ⟨q, rfl⟩ : ∃ q', q = q' + 1 := ⟨q - 1, by omega⟩
    rw [wcn]
    by_cases g : j < n ∧ btw (T j) 48 57
    · rw [if_pos g]
      have D := digit_y (x := 0) (y := 9) (a := 48) (b := 57) hn (show 80 < 100000 by omega) h t g.1 (by omega) rfl rfl g.2 (by decide)
      have F1 : Fr wVa V (sa (si V 89 18 (on (j + 1))) 108 j (T j - 48)) := Fr.sa (Fr.si Fr.rf rfl) rfl
      have h' : MT (sa (si V 89 18 (on (j + 1))) 108 j (T j - 48)) n 80 (j + 1) := (h.go (j + 1)).fr (w := ([], [108])) (Fr.sa Fr.rf rfl) rfl
      obtain ⟨V', e', m', d', F'⟩ := ih (j + 1) q _ (by omega) (by omega) h' (t.fr F1 rfl) (fun i hi => by
        rw [ga_sa, ga_si]
        by_cases e : i = j
        · rw [if_pos ⟨rfl, e⟩, e]
        · rw [if_neg (fun hc => e hc.2)]; exact hd i (by omega)) (by omega)
      rw [show j + 1 + wcn T n c (j + 1) = j + (wcn T n c (j + 1) + 1) by omega] at e' m' d'
      refine ⟨V', ?_, m', d', Fr.tr F1 F' rfl⟩
      rw [d_M_values_26, fine_y h.2.2.2.2, bd_some, if_neg (by decide), here_y hn (by omega) h t g.1 (by omega), bd_some, in_eq, bd_some, if_neg (by rw [tf_pos g.2]; decide), if_neg (by rw [show (4 : Int32) = on 4 from rfl, on_le (by omega) (by omega)]; omega), D, bd_some, if_pos (by rw [on_in (by omega)]; omega), on_nn (by omega), on_s]
      exact e'
    · rw [if_neg g]
      refine ⟨V, ?_, h, hd, Fr.rf⟩
      rw [d_M_values_26, fine_y h.2.2.2.2, bd_some, if_neg (by decide)]
      by_cases e : j < n
      · rw [here_y hn (by omega) h t e (by omega), bd_some, in_eq, bd_some, if_pos (tf_neg (fun hc => g ⟨e, hc⟩))]; rfl
      · rw [here_n hn (by omega) (by omega) h (by omega), bd_some, in_eq, bd_some, if_pos (tf_neg (by decide))]; rfl
theorem v179 {V : ai_V} (x : Int32) : ∃ V', d_M_values_179 ai_N x 0 V = some (x, V') ∧ gi V' 89 46 = x ∧ (∀ i, i < 16 → ga V' 107 i = ga V 108 i) ∧ Fr ([(89, 46)], [107]) V V' := by
  have := loop_n (fun n (_ : Unit) y V => d_M_values_179 n x y V) (fun c : Int32 × ai_V => some c) (fun k _ V' => (∀ j, j < k → ga V' 107 j = ga V 108 j) ∧ Fr ([], [107]) V V') (fun c => c.1 = x ∧ gi c.2 89 46 = x ∧ (∀ i, i < 16 → ga c.2 107 i = ga V 108 i) ∧ Fr ([(89, 46)], [107]) V c.2) 16 ?_ ?_ 16 0 ai_N () V (by omega) (N_gt (by omega)) ⟨fun j hj => by omega, Fr.rf⟩
  · obtain ⟨⟨c1, c2⟩, e, q1, q⟩ := this
    simp only at q1
    subst q1
    exact ⟨c2, e, q⟩
  · rintro n a k V1 hk ⟨a1, hF⟩
    show ∃ (_ : Unit) (V' : ai_V), d_M_values_179 (n + 1) x (on k) V1 = _ ∧ _
    rw [d_M_values_179, show (16 : Int32) = on 16 from rfl, if_neg (by rw [on_le (by omega) (by omega)]; omega), if_pos (by rw [on_in (by omega)]; omega), if_pos (by rw [on_in (by omega)]; omega), on_nn (by omega), on_s]
    refine ⟨(), _, rfl, fun j hj => ?_, Fr.sa hF rfl⟩
    rw [ga_sa]
    by_cases e : j = k
    · rw [if_pos ⟨rfl, e⟩, e, hF.ga 108 rfl]
    · rw [if_neg (by omega)]; exact a1 j (by omega)
  · rintro n a V1 ⟨a1, hF⟩
    show ∃ c : Int32 × ai_V, d_M_values_179 (n + 1) x (on 16) V1 = _ ∧ _
    rw [d_M_values_179, if_pos (by decide)]
    exact ⟨_, rfl, rfl, by rw [gi_si, if_pos ⟨rfl, rfl⟩], fun i hi => a1 i hi, Fr.si (Fr.tr Fr.rf hF rfl) rfl⟩
