/-! ===== printed by wip/gen/tmpl.py: a quarter goes by in the model ===== -/
theorem chargeM_90 {V : ai_V} {h : Hs} (hO : HO h) (hM : MH V h) : ∃ V', d_M_goQuarter_163 ai_N (0 : Int32) V = some V' ∧ (∀ k, k < 14 → ga V' 90 k = ga V 90 k + (if k < hm h then hdu h * (hst h k + 1) else 0)) ∧ Fr ([], [90]) V V' := by
  have h6 := hO.1
  refine loop_n (fun n (_ : Unit) x V => d_M_goQuarter_163 n x V) (fun c : ai_V => some c)
    (fun i _ V1 => (∀ k, k < 14 → ga V1 90 k = ga V 90 k + (if k < i then hdu h * (hst h k + 1) else 0)) ∧ Fr ([], [90]) V V1)
    (fun V' => (∀ k, k < 14 → ga V' 90 k = ga V 90 k + (if k < hm h then hdu h * (hst h k + 1) else 0)) ∧ Fr ([], [90]) V V') (hm h) ?_ ?_ (hm h) 0 ai_N () V (by omega) (N_gt (by omega)) ⟨fun k hk => by simp, Fr.rf⟩
  · rintro n _ i V1 e ⟨a1, hF⟩
    have M1 := hM.fr hF rfl
    show ∃ a' V', d_M_goQuarter_163 (n + 1) (on i) V1 = _ ∧ _
    have hin : ai_in (on i) 6 := by rw [on_in (by omega)]; omega
    have hin' : ai_in (on i) 14 := by rw [on_in (by omega)]; omega
    rw [d_M_goQuarter_163, M1.1, if_neg (by rw [on_le (by omega) (by omega)]; omega), if_pos hin', if_pos hin, if_pos hin', on_s, on_nn (by omega), M1.2.1, M1.2.2.2.1]
    refine ⟨(), _, rfl, ?_, Fr.sa hF rfl⟩
    intro k hk
    simp only [ga_sa, true_and]
    by_cases e3 : k = i
    · rw [if_pos e3, e3, a1 i (by omega), if_neg (by omega), if_pos (by omega)]; simp
    · rw [if_neg e3, a1 k hk]
      congr 1
      by_cases e4 : k < i
      · rw [if_pos e4, if_pos (by omega)]
      · rw [if_neg e4, if_neg (by omega)]
  · rintro n _ V1 ⟨a1, hF⟩
    have M1 := hM.fr hF rfl
    show ∃ c, d_M_goQuarter_163 (n + 1) (on (hm h)) V1 = _ ∧ _
    rw [d_M_goQuarter_163, M1.1, if_pos (Int32.le_refl _)]
    exact ⟨V1, rfl, a1, hF⟩
theorem goQ104_90 {V : ai_V} {h : Hs} {d : Nat} {z : Ss} (hO : HO h) (hM : MH V h) (hd : gi V 89 29 = on d) (hd6 : d < 64) (hdm : ∀ k, k < 6 → d.testBit k = true → k < hm h) (hz : mS z V 90 0) :
    ∃ V', d_M_goQuarter_104 ai_N (0 : Int32) V = some V' ∧ mS (z.1 + 1, z.2.1, fun k => z.2.2.1 k + (if q12 (z.1 + 1) = 0 ∧ k < hm h then hdu h * (hst h k + 1) else 0), fun k => z.2.2.2 k + tf (d.testBit k = true)) V' 90 0 ∧ Fr ([], [90]) V V' := by
  have h6 := hO.1
  obtain ⟨z1, z2, z3⟩ := hz
  simp only [Nat.zero_add] at z1 z2 z3
  refine loop_n (fun n (_ : Unit) x V => d_M_goQuarter_104 n x V) (fun c : ai_V => some c)
    (fun i _ V1 => (∀ k, k < 6 → ga V1 90 (6 + k) = z.2.2.2 k + (if k < i then tf (d.testBit k = true) else 0)) ∧ (∀ k, k < 6 → ga V1 90 k = z.2.2.1 k) ∧ ga V1 90 12 = z.2.1 ∧ ga V1 90 13 = z.1 ∧ Fr ([], [90]) V V1)
    (fun V' => mS (z.1 + 1, z.2.1, fun k => z.2.2.1 k + (if q12 (z.1 + 1) = 0 ∧ k < hm h then hdu h * (hst h k + 1) else 0), fun k => z.2.2.2 k + tf (d.testBit k = true)) V' 90 0 ∧ Fr ([], [90]) V V') (hm h) ?_ ?_ (hm h) 0 ai_N () V (by omega) (N_gt (by omega)) ⟨fun k hk => by rw [(z3 k hk).2]; simp, fun k hk => (z3 k hk).1, z2, z1, Fr.rf⟩
  · rintro n _ i V1 e ⟨a1, a2, a3, a4, hF⟩
    have M1 := hM.fr hF rfl
    show ∃ a' V', d_M_goQuarter_104 (n + 1) (on i) V1 = _ ∧ _
    have hin : ai_in (on (6 + i)) 14 := by rw [on_in (by omega)]; omega
    rw [d_M_goQuarter_104, M1.1, if_neg (by rw [on_le (by omega) (by omega)]; omega), hF.gi 89 29 rfl, hd, mhas_on hd6 (by omega), bd_some]
    by_cases e2 : d.testBit i = true
    · rw [if_neg (by rw [tf_pos e2]; decide), show (6 : Int32) = on 6 from rfl, on_add, if_pos hin, if_pos hin, d_M_goQuarter_136, on_s, on_nn (by omega)]
      refine ⟨(), _, rfl, ?_, ?_, ?_, ?_, Fr.sa hF rfl⟩
      · intro k hk
        simp only [ga_sa, true_and]
        by_cases e3 : k = i
        · subst e3
          rw [if_pos rfl, a1 k hk, if_neg (by omega), if_pos (by omega), tf_pos e2]; simp
        · rw [if_neg (by omega), a1 k hk]
          congr 1
          by_cases e4 : k < i
          · rw [if_pos e4, if_pos (by omega)]
          · rw [if_neg e4, if_neg (by omega)]
      · intro k hk
        simp only [ga_sa, true_and]
        rw [if_neg (by omega)]; exact a2 k hk
      · simp only [ga_sa, true_and]
        rw [if_neg (by omega)]; exact a3
      · simp only [ga_sa, true_and]
        rw [if_neg (by omega)]; exact a4
    · rw [if_pos (tf_neg e2), d_M_goQuarter_136, on_s]
      refine ⟨(), _, rfl, ?_, a2, a3, a4, hF⟩
      intro k hk
      rw [a1 k hk]
      congr 1
      by_cases e3 : k = i
      · subst e3
        rw [if_neg (by omega), if_pos (by omega), tf_neg e2]
      · by_cases e4 : k < i
        · rw [if_pos e4, if_pos (by omega)]
        · rw [if_neg e4, if_neg (by omega)]
  · rintro n _ V1 ⟨a1, a2, a3, a4, hF⟩
    have M1 := hM.fr hF rfl
    show ∃ c, d_M_goQuarter_104 (n + 1) (on (hm h)) V1 = _ ∧ _
    have a1' : ∀ k, k < 6 → ga V1 90 (6 + k) = z.2.2.2 k + tf (d.testBit k = true) := by
      intro k hk
      rw [a1 k hk]
      congr 1
      by_cases e : k < hm h
      · rw [if_pos e]
      · rw [if_neg e, tf_neg (fun hb => e (hdm k hk hb))]
    rw [d_M_goQuarter_104, M1.1, if_pos (Int32.le_refl _), show ((13 : Int32)).toNatClampNeg = 13 from rfl]
    simp only [ga_sa, and_self, if_true, a4]
    have q0 : z.1 + 1 - (z.1 + 1) / 12 * 12 = q12 (z.1 + 1) := rfl
    rw [q0]
    by_cases e : q12 (z.1 + 1) = 0
    · rw [if_neg (fun hn => hn e)]
      have M2 : MH (sa V1 90 13 (z.1 + 1)) h := M1.fr (w := ([], [90])) (Fr.sa Fr.rf rfl) rfl
      obtain ⟨V2, e2, c1, F2⟩ := chargeM_90 hO M2
      refine ⟨V2, e2, ⟨?_, ?_, fun k hk => ⟨?_, ?_⟩⟩, Fr.tr (Fr.sa hF rfl) F2 rfl⟩
      · rw [Nat.zero_add, c1 13 (by omega), ga_sa, if_pos ⟨rfl, rfl⟩, if_neg (by omega)]; simp
      · rw [Nat.zero_add, c1 12 (by omega), ga_sa, if_neg (by omega), if_neg (by omega), a3]; simp
      · rw [Nat.zero_add, c1 k (by omega), ga_sa, if_neg (by omega), a2 k hk]; simp [e]
      · rw [Nat.zero_add, c1 (6 + k) (by omega), ga_sa, if_neg (by omega), if_neg (by omega), a1' k hk]; simp
    · rw [if_pos e]
      refine ⟨_, rfl, ⟨?_, ?_, fun k hk => ⟨?_, ?_⟩⟩, Fr.sa hF rfl⟩
      · rw [Nat.zero_add, ga_sa, if_pos ⟨rfl, rfl⟩]
      · rw [Nat.zero_add, ga_sa, if_neg (by omega), a3]
      · rw [Nat.zero_add, ga_sa, if_neg (by omega), a2 k hk]; simp [e]
      · rw [Nat.zero_add, ga_sa, if_neg (by omega), a1' k hk]
theorem goQ_90 {V : ai_V} {h : Hs} {f : Rf} {g : Nat → Int32} {nw : Nat} {z : Ss} {rm : Int32} {b : Nat} (hO : HO h) (hM : MH V h) (hR : MR V f) (hg : SG V h g) (hb : b < 2 ^ hm h) (hz : mS z V 90 0) (hn : z.1 = on nw) (hnw : nw < 2147483647) :
    ∃ V', d_M_goQuarter (on b) rm V = some V' ∧ mS (qz h f (ordL g (hm h)) rm b z) V' 90 0 ∧ gi V' 89 32 = qlif h f b z ∧ gi V' 89 33 = qovr h f rm b z ∧ gi V' 89 29 = on (qT h f (ordL g (hm h)) rm b z).2 := by
  have h6 := hO.1
  have h64 : b < 64 := Nat.lt_of_lt_of_le hb (two_le h6)
  obtain ⟨z1, z2, z3⟩ := hz
  simp only [Nat.zero_add] at z1 z2 z3
  rw [d_M_goQuarter, show ((12 : Int32)).toNatClampNeg = 12 from rfl, show ((13 : Int32)).toNatClampNeg = 13 from rfl, z1, z2]
  obtain ⟨Va, ea⟩ := liftOfAll_eq hO hM hR h64 z.2.1 z.1
  have Fa : Fr w_M_liftOfAll V Va := fr_M_liftOfAll _ _ _ _ _ ea
  rw [ea, bd_some]
  simp only [gi_si, ga_si, and_self, if_true]
  rw [Fa.ga 90 rfl, z2]
  have hov : ai_max 0 (z.2.1 + LA h f b z.2.1 (q12 z.1) (hbr h) - rm) = qovr h f rm b z := rfl
  have hli : LA h f b z.2.1 (q12 z.1) (hbr h) = qlif h f b z := rfl
  rw [hov, hli]
  generalize hV1 : si (si Va 89 32 (qlif h f b z)) 89 33 (qovr h f rm b z) = V1
  have F1 : Fr w_M_goQuarter V V1 := by rw [← hV1]; exact Fr.si (Fr.si (Fr.tr Fr.rf Fa rfl) rfl) rfl
  have l1 : gi V1 89 32 = qlif h f b z := by rw [← hV1]; simp only [gi_si]; simp
  have l2 : gi V1 89 33 = qovr h f rm b z := by rw [← hV1]; simp only [gi_si]; simp
  have A1 : ga V1 90 = ga V 90 := by rw [← hV1]; exact Fa.ga 90 rfl
  refine loop_n (fun n (_ : Unit) x V => d_M_goQuarter_39 n (on b) x V) (fun c : ai_V => some c)
    (fun i _ V2 => (∀ k, k < 6 → ga V2 90 k = z.2.2.1 k - (if k < i ∧ b.testBit k = true then tn h b else 0)) ∧ (∀ k, k < 6 → ga V2 90 (6 + k) = z.2.2.2 k) ∧ ga V2 90 12 = z.2.1 ∧ ga V2 90 13 = z.1 ∧ Fr ([], [90]) V1 V2)
    (fun V' => mS (qz h f (ordL g (hm h)) rm b z) V' 90 0 ∧ gi V' 89 32 = qlif h f b z ∧ gi V' 89 33 = qovr h f rm b z ∧ gi V' 89 29 = on (qT h f (ordL g (hm h)) rm b z).2) (hm h) ?_ ?_ (hm h) 0 ai_N () V1 (by omega) (N_gt (by omega)) ⟨fun k hk => by rw [A1, (z3 k hk).1]; simp, fun k hk => by rw [A1]; exact (z3 k hk).2, by rw [A1]; exact z2, by rw [A1]; exact z1, Fr.rf⟩
  · rintro n _ i V2 e ⟨a1, a2, a3, a4, hF⟩
    have M2 := (hM.fr F1 rfl).fr hF rfl
    show ∃ a' V', d_M_goQuarter_39 (n + 1) (on b) (on i) V2 = _ ∧ _
    have hin : ai_in (on i) 14 := by rw [on_in (by omega)]; omega
    rw [d_M_goQuarter_39, M2.1, if_neg (by rw [on_le (by omega) (by omega)]; omega), mhas_on h64 (by omega), bd_some]
    by_cases e2 : b.testBit i = true
    · rw [if_neg (by rw [tf_pos e2]; decide), if_pos hin, turnsM_eq hO M2 h64, bd_some, if_pos hin, d_M_goQuarter_69, on_s, on_nn (by omega)]
      refine ⟨(), _, rfl, ?_, ?_, ?_, ?_, Fr.sa hF rfl⟩
      · intro k hk
        simp only [ga_sa, true_and]
        by_cases e3 : k = i
        · subst e3
          rw [if_pos rfl, a1 k hk, if_neg (by omega), if_pos ⟨by omega, e2⟩]; simp
        · rw [if_neg e3, a1 k hk]
          congr 1
          by_cases e4 : k < i ∧ b.testBit k = true
          · rw [if_pos e4, if_pos ⟨by omega, e4.2⟩]
          · rw [if_neg e4, if_neg (fun hc => e4 ⟨by omega, hc.2⟩)]
      · intro k hk
        simp only [ga_sa, true_and]
        rw [if_neg (by omega)]; exact a2 k hk
      · simp only [ga_sa, true_and]
        rw [if_neg (by omega)]; exact a3
      · simp only [ga_sa, true_and]
        rw [if_neg (by omega)]; exact a4
    · rw [if_pos (tf_neg e2), d_M_goQuarter_69, on_s]
      refine ⟨(), _, rfl, ?_, a2, a3, a4, hF⟩
      intro k hk
      rw [a1 k hk]
      congr 1
      by_cases e4 : k < i ∧ b.testBit k = true
      · rw [if_pos e4, if_pos ⟨by omega, e4.2⟩]
      · rw [if_neg e4, if_neg (fun hc => e4 ⟨by
          rcases Nat.lt_or_ge k i with h1 | h1
          · exact h1
          · have : k = i := by omega
            rw [this] at hc; exact absurd hc.2 e2, hc.2⟩)]
  · rintro n _ V2 ⟨a1, a2, a3, a4, hF⟩
    have M2 := (hM.fr F1 rfl).fr hF rfl
    have G2 : SG V2 h g := hg.of (by rw [hF.gi 89 30 rfl, F1.gi 89 30 rfl]) (by rw [hF.gi 89 31 rfl, F1.gi 89 31 rfl])
    show ∃ c, d_M_goQuarter_39 (n + 1) (on b) (on (hm h)) V2 = _ ∧ _
    rw [d_M_goQuarter_39, M2.1, if_pos (Int32.le_refl _), show ((12 : Int32)).toNatClampNeg = 12 from rfl, show ((13 : Int32)).toNatClampNeg = 13 from rfl, a3, a4, hF.gi 89 32 rfl, hF.gi 89 33 rfl, l1, l2, hn]
    obtain ⟨V3, e3, d3, F3⟩ := takes_eq hO M2 (show nw < 2147483648 by omega) (z.2.1 + qlif h f b z - qovr h f rm b z) G2
    rw [e3, bd_some]
    have hnn : z.1.toNatClampNeg = nw := by rw [hn, on_nn (by omega)]
    have hT : tk h (nw % 12) (ordL g (hm h)) (z.2.1 + qlif h f b z - qovr h f rm b z, 0) = qT h f (ordL g (hm h)) rm b z := by
      unfold qT
      rw [hnn, Int32.sub_eq_add_neg (qlif h f b z), ← Int32.add_assoc, ← Int32.sub_eq_add_neg]
    rw [hT] at d3 ⊢
    obtain ⟨t1, t2⟩ := tk_bits h (nw % 12) (ordL g (hm h)) (z.2.1 + qlif h f b z - qovr h f rm b z) (fun j hj => by have := ordL_mem hj; omega)
    rw [hT] at t1 t2
    have M4 : MH (sa V3 90 12 (qT h f (ordL g (hm h)) rm b z).1) h := (M2.fr F3 rfl).fr (w := ([], [90])) (Fr.sa Fr.rf rfl) rfl
    obtain ⟨V5, e5, Z5, F5⟩ := goQ104_90 (z := (z.1, (qT h f (ordL g (hm h)) rm b z).1, fun k => z.2.2.1 k - (if b.testBit k = true then tn h b else 0), z.2.2.2)) hO M4 (by rw [gi_sa]; exact d3) t1 (fun k hk hb => ordL_mem (t2 k hk hb)) (by
      have A3 : ga V3 90 = ga V2 90 := F3.ga 90 rfl
      refine ⟨?_, ?_, fun k hk => ⟨?_, ?_⟩⟩
      · rw [Nat.zero_add, ga_sa, if_neg (by omega), A3, a4]
      · rw [Nat.zero_add, ga_sa, if_pos ⟨rfl, rfl⟩]
      · rw [Nat.zero_add, ga_sa, if_neg (by omega), A3, a1 k hk]
        show _ - _ = z.2.2.1 k - _
        congr 1
        by_cases e4 : b.testBit k = true
        · rw [if_pos e4]
          by_cases e6 : k < hm h
          · rw [if_pos ⟨e6, e4⟩]
          · have hlt : b < 2 ^ k := Nat.lt_of_lt_of_le hb (Nat.pow_le_pow_right (by decide) (by omega))
            rw [Nat.testBit_lt_two_pow hlt] at e4
            cases e4
        · rw [if_neg e4, if_neg (fun hc => e4 hc.2)]
      · rw [Nat.zero_add, ga_sa, if_neg (by omega), A3, a2 k hk])
    refine ⟨V5, e5, ?_, ?_, ?_, ?_⟩
    · exact Z5
    · rw [F5.gi 89 32 rfl, gi_sa, F3.gi 89 32 rfl, hF.gi 89 32 rfl, l1]
    · rw [F5.gi 89 33 rfl, gi_sa, F3.gi 89 33 rfl, hF.gi 89 33 rfl, l2]
    · rw [F5.gi 89 29 rfl, gi_sa, d3]

theorem chargeM_103 {V : ai_V} {h : Hs} (hO : HO h) (hM : MH V h) : ∃ V', d_M_goQuarter_89_103_163 ai_N (0 : Int32) V = some V' ∧ (∀ k, k < 14 → ga V' 103 k = ga V 103 k + (if k < hm h then hdu h * (hst h k + 1) else 0)) ∧ Fr ([], [103]) V V' := by
  have h6 := hO.1
  refine loop_n (fun n (_ : Unit) x V => d_M_goQuarter_89_103_163 n x V) (fun c : ai_V => some c)
    (fun i _ V1 => (∀ k, k < 14 → ga V1 103 k = ga V 103 k + (if k < i then hdu h * (hst h k + 1) else 0)) ∧ Fr ([], [103]) V V1)
    (fun V' => (∀ k, k < 14 → ga V' 103 k = ga V 103 k + (if k < hm h then hdu h * (hst h k + 1) else 0)) ∧ Fr ([], [103]) V V') (hm h) ?_ ?_ (hm h) 0 ai_N () V (by omega) (N_gt (by omega)) ⟨fun k hk => by simp, Fr.rf⟩
  · rintro n _ i V1 e ⟨a1, hF⟩
    have M1 := hM.fr hF rfl
    show ∃ a' V', d_M_goQuarter_89_103_163 (n + 1) (on i) V1 = _ ∧ _
    have hin : ai_in (on i) 6 := by rw [on_in (by omega)]; omega
    have hin' : ai_in (on i) 14 := by rw [on_in (by omega)]; omega
    rw [d_M_goQuarter_89_103_163, M1.1, if_neg (by rw [on_le (by omega) (by omega)]; omega), if_pos hin', if_pos hin, if_pos hin', on_s, on_nn (by omega), M1.2.1, M1.2.2.2.1]
    refine ⟨(), _, rfl, ?_, Fr.sa hF rfl⟩
    intro k hk
    simp only [ga_sa, true_and]
    by_cases e3 : k = i
    · rw [if_pos e3, e3, a1 i (by omega), if_neg (by omega), if_pos (by omega)]; simp
    · rw [if_neg e3, a1 k hk]
      congr 1
      by_cases e4 : k < i
      · rw [if_pos e4, if_pos (by omega)]
      · rw [if_neg e4, if_neg (by omega)]
  · rintro n _ V1 ⟨a1, hF⟩
    have M1 := hM.fr hF rfl
    show ∃ c, d_M_goQuarter_89_103_163 (n + 1) (on (hm h)) V1 = _ ∧ _
    rw [d_M_goQuarter_89_103_163, M1.1, if_pos (Int32.le_refl _)]
    exact ⟨V1, rfl, a1, hF⟩
theorem goQ104_103 {V : ai_V} {h : Hs} {d : Nat} {z : Ss} (hO : HO h) (hM : MH V h) (hd : gi V 89 29 = on d) (hd6 : d < 64) (hdm : ∀ k, k < 6 → d.testBit k = true → k < hm h) (hz : mS z V 103 0) :
    ∃ V', d_M_goQuarter_89_103_104 ai_N (0 : Int32) V = some V' ∧ mS (z.1 + 1, z.2.1, fun k => z.2.2.1 k + (if q12 (z.1 + 1) = 0 ∧ k < hm h then hdu h * (hst h k + 1) else 0), fun k => z.2.2.2 k + tf (d.testBit k = true)) V' 103 0 ∧ Fr ([], [103]) V V' := by
  have h6 := hO.1
  obtain ⟨z1, z2, z3⟩ := hz
  simp only [Nat.zero_add] at z1 z2 z3
  refine loop_n (fun n (_ : Unit) x V => d_M_goQuarter_89_103_104 n x V) (fun c : ai_V => some c)
    (fun i _ V1 => (∀ k, k < 6 → ga V1 103 (6 + k) = z.2.2.2 k + (if k < i then tf (d.testBit k = true) else 0)) ∧ (∀ k, k < 6 → ga V1 103 k = z.2.2.1 k) ∧ ga V1 103 12 = z.2.1 ∧ ga V1 103 13 = z.1 ∧ Fr ([], [103]) V V1)
    (fun V' => mS (z.1 + 1, z.2.1, fun k => z.2.2.1 k + (if q12 (z.1 + 1) = 0 ∧ k < hm h then hdu h * (hst h k + 1) else 0), fun k => z.2.2.2 k + tf (d.testBit k = true)) V' 103 0 ∧ Fr ([], [103]) V V') (hm h) ?_ ?_ (hm h) 0 ai_N () V (by omega) (N_gt (by omega)) ⟨fun k hk => by rw [(z3 k hk).2]; simp, fun k hk => (z3 k hk).1, z2, z1, Fr.rf⟩
  · rintro n _ i V1 e ⟨a1, a2, a3, a4, hF⟩
    have M1 := hM.fr hF rfl
    show ∃ a' V', d_M_goQuarter_89_103_104 (n + 1) (on i) V1 = _ ∧ _
    have hin : ai_in (on (6 + i)) 14 := by rw [on_in (by omega)]; omega
    rw [d_M_goQuarter_89_103_104, M1.1, if_neg (by rw [on_le (by omega) (by omega)]; omega), hF.gi 89 29 rfl, hd, mhas_on hd6 (by omega), bd_some]
    by_cases e2 : d.testBit i = true
    · rw [if_neg (by rw [tf_pos e2]; decide), show (6 : Int32) = on 6 from rfl, on_add, if_pos hin, if_pos hin, d_M_goQuarter_89_103_136, on_s, on_nn (by omega)]
      refine ⟨(), _, rfl, ?_, ?_, ?_, ?_, Fr.sa hF rfl⟩
      · intro k hk
        simp only [ga_sa, true_and]
        by_cases e3 : k = i
        · subst e3
          rw [if_pos rfl, a1 k hk, if_neg (by omega), if_pos (by omega), tf_pos e2]; simp
        · rw [if_neg (by omega), a1 k hk]
          congr 1
          by_cases e4 : k < i
          · rw [if_pos e4, if_pos (by omega)]
          · rw [if_neg e4, if_neg (by omega)]
      · intro k hk
        simp only [ga_sa, true_and]
        rw [if_neg (by omega)]; exact a2 k hk
      · simp only [ga_sa, true_and]
        rw [if_neg (by omega)]; exact a3
      · simp only [ga_sa, true_and]
        rw [if_neg (by omega)]; exact a4
    · rw [if_pos (tf_neg e2), d_M_goQuarter_89_103_136, on_s]
      refine ⟨(), _, rfl, ?_, a2, a3, a4, hF⟩
      intro k hk
      rw [a1 k hk]
      congr 1
      by_cases e3 : k = i
      · subst e3
        rw [if_neg (by omega), if_pos (by omega), tf_neg e2]
      · by_cases e4 : k < i
        · rw [if_pos e4, if_pos (by omega)]
        · rw [if_neg e4, if_neg (by omega)]
  · rintro n _ V1 ⟨a1, a2, a3, a4, hF⟩
    have M1 := hM.fr hF rfl
    show ∃ c, d_M_goQuarter_89_103_104 (n + 1) (on (hm h)) V1 = _ ∧ _
    have a1' : ∀ k, k < 6 → ga V1 103 (6 + k) = z.2.2.2 k + tf (d.testBit k = true) := by
      intro k hk
      rw [a1 k hk]
      congr 1
      by_cases e : k < hm h
      · rw [if_pos e]
      · rw [if_neg e, tf_neg (fun hb => e (hdm k hk hb))]
    rw [d_M_goQuarter_89_103_104, M1.1, if_pos (Int32.le_refl _), show ((13 : Int32)).toNatClampNeg = 13 from rfl]
    simp only [ga_sa, and_self, if_true, a4]
    have q0 : z.1 + 1 - (z.1 + 1) / 12 * 12 = q12 (z.1 + 1) := rfl
    rw [q0]
    by_cases e : q12 (z.1 + 1) = 0
    · rw [if_neg (fun hn => hn e)]
      have M2 : MH (sa V1 103 13 (z.1 + 1)) h := M1.fr (w := ([], [103])) (Fr.sa Fr.rf rfl) rfl
      obtain ⟨V2, e2, c1, F2⟩ := chargeM_103 hO M2
      refine ⟨V2, e2, ⟨?_, ?_, fun k hk => ⟨?_, ?_⟩⟩, Fr.tr (Fr.sa hF rfl) F2 rfl⟩
      · rw [Nat.zero_add, c1 13 (by omega), ga_sa, if_pos ⟨rfl, rfl⟩, if_neg (by omega)]; simp
      · rw [Nat.zero_add, c1 12 (by omega), ga_sa, if_neg (by omega), if_neg (by omega), a3]; simp
      · rw [Nat.zero_add, c1 k (by omega), ga_sa, if_neg (by omega), a2 k hk]; simp [e]
      · rw [Nat.zero_add, c1 (6 + k) (by omega), ga_sa, if_neg (by omega), if_neg (by omega), a1' k hk]; simp
    · rw [if_pos e]
      refine ⟨_, rfl, ⟨?_, ?_, fun k hk => ⟨?_, ?_⟩⟩, Fr.sa hF rfl⟩
      · rw [Nat.zero_add, ga_sa, if_pos ⟨rfl, rfl⟩]
      · rw [Nat.zero_add, ga_sa, if_neg (by omega), a3]
      · rw [Nat.zero_add, ga_sa, if_neg (by omega), a2 k hk]; simp [e]
      · rw [Nat.zero_add, ga_sa, if_neg (by omega), a1' k hk]
theorem goQ_103 {V : ai_V} {h : Hs} {f : Rf} {g : Nat → Int32} {nw : Nat} {z : Ss} {rm : Int32} {b : Nat} (hO : HO h) (hM : MH V h) (hR : MR V f) (hg : SG V h g) (hb : b < 2 ^ hm h) (hz : mS z V 103 0) (hn : z.1 = on nw) (hnw : nw < 2147483647) :
    ∃ V', d_M_goQuarter_89_103 (on b) rm V = some V' ∧ mS (qz h f (ordL g (hm h)) rm b z) V' 103 0 ∧ gi V' 89 32 = qlif h f b z ∧ gi V' 89 33 = qovr h f rm b z ∧ gi V' 89 29 = on (qT h f (ordL g (hm h)) rm b z).2 := by
  have h6 := hO.1
  have h64 : b < 64 := Nat.lt_of_lt_of_le hb (two_le h6)
  obtain ⟨z1, z2, z3⟩ := hz
  simp only [Nat.zero_add] at z1 z2 z3
  rw [d_M_goQuarter_89_103, show ((12 : Int32)).toNatClampNeg = 12 from rfl, show ((13 : Int32)).toNatClampNeg = 13 from rfl, z1, z2]
  obtain ⟨Va, ea⟩ := liftOfAll_eq hO hM hR h64 z.2.1 z.1
  have Fa : Fr w_M_liftOfAll V Va := fr_M_liftOfAll _ _ _ _ _ ea
  rw [ea, bd_some]
  simp only [gi_si, ga_si, and_self, if_true]
  rw [Fa.ga 103 rfl, z2]
  have hov : ai_max 0 (z.2.1 + LA h f b z.2.1 (q12 z.1) (hbr h) - rm) = qovr h f rm b z := rfl
  have hli : LA h f b z.2.1 (q12 z.1) (hbr h) = qlif h f b z := rfl
  rw [hov, hli]
  generalize hV1 : si (si Va 89 32 (qlif h f b z)) 89 33 (qovr h f rm b z) = V1
  have F1 : Fr w_M_goQuarter_89_103 V V1 := by rw [← hV1]; exact Fr.si (Fr.si (Fr.tr Fr.rf Fa rfl) rfl) rfl
  have l1 : gi V1 89 32 = qlif h f b z := by rw [← hV1]; simp only [gi_si]; simp
  have l2 : gi V1 89 33 = qovr h f rm b z := by rw [← hV1]; simp only [gi_si]; simp
  have A1 : ga V1 103 = ga V 103 := by rw [← hV1]; exact Fa.ga 103 rfl
  refine loop_n (fun n (_ : Unit) x V => d_M_goQuarter_89_103_39 n (on b) x V) (fun c : ai_V => some c)
    (fun i _ V2 => (∀ k, k < 6 → ga V2 103 k = z.2.2.1 k - (if k < i ∧ b.testBit k = true then tn h b else 0)) ∧ (∀ k, k < 6 → ga V2 103 (6 + k) = z.2.2.2 k) ∧ ga V2 103 12 = z.2.1 ∧ ga V2 103 13 = z.1 ∧ Fr ([], [103]) V1 V2)
    (fun V' => mS (qz h f (ordL g (hm h)) rm b z) V' 103 0 ∧ gi V' 89 32 = qlif h f b z ∧ gi V' 89 33 = qovr h f rm b z ∧ gi V' 89 29 = on (qT h f (ordL g (hm h)) rm b z).2) (hm h) ?_ ?_ (hm h) 0 ai_N () V1 (by omega) (N_gt (by omega)) ⟨fun k hk => by rw [A1, (z3 k hk).1]; simp, fun k hk => by rw [A1]; exact (z3 k hk).2, by rw [A1]; exact z2, by rw [A1]; exact z1, Fr.rf⟩
  · rintro n _ i V2 e ⟨a1, a2, a3, a4, hF⟩
    have M2 := (hM.fr F1 rfl).fr hF rfl
    show ∃ a' V', d_M_goQuarter_89_103_39 (n + 1) (on b) (on i) V2 = _ ∧ _
    have hin : ai_in (on i) 14 := by rw [on_in (by omega)]; omega
    rw [d_M_goQuarter_89_103_39, M2.1, if_neg (by rw [on_le (by omega) (by omega)]; omega), mhas_on h64 (by omega), bd_some]
    by_cases e2 : b.testBit i = true
    · rw [if_neg (by rw [tf_pos e2]; decide), if_pos hin, turnsM_eq hO M2 h64, bd_some, if_pos hin, d_M_goQuarter_89_103_69, on_s, on_nn (by omega)]
      refine ⟨(), _, rfl, ?_, ?_, ?_, ?_, Fr.sa hF rfl⟩
      · intro k hk
        simp only [ga_sa, true_and]
        by_cases e3 : k = i
        · subst e3
          rw [if_pos rfl, a1 k hk, if_neg (by omega), if_pos ⟨by omega, e2⟩]; simp
        · rw [if_neg e3, a1 k hk]
          congr 1
          by_cases e4 : k < i ∧ b.testBit k = true
          · rw [if_pos e4, if_pos ⟨by omega, e4.2⟩]
          · rw [if_neg e4, if_neg (fun hc => e4 ⟨by omega, hc.2⟩)]
      · intro k hk
        simp only [ga_sa, true_and]
        rw [if_neg (by omega)]; exact a2 k hk
      · simp only [ga_sa, true_and]
        rw [if_neg (by omega)]; exact a3
      · simp only [ga_sa, true_and]
        rw [if_neg (by omega)]; exact a4
    · rw [if_pos (tf_neg e2), d_M_goQuarter_89_103_69, on_s]
      refine ⟨(), _, rfl, ?_, a2, a3, a4, hF⟩
      intro k hk
      rw [a1 k hk]
      congr 1
      by_cases e4 : k < i ∧ b.testBit k = true
      · rw [if_pos e4, if_pos ⟨by omega, e4.2⟩]
      · rw [if_neg e4, if_neg (fun hc => e4 ⟨by
          rcases Nat.lt_or_ge k i with h1 | h1
          · exact h1
          · have : k = i := by omega
            rw [this] at hc; exact absurd hc.2 e2, hc.2⟩)]
  · rintro n _ V2 ⟨a1, a2, a3, a4, hF⟩
    have M2 := (hM.fr F1 rfl).fr hF rfl
    have G2 : SG V2 h g := hg.of (by rw [hF.gi 89 30 rfl, F1.gi 89 30 rfl]) (by rw [hF.gi 89 31 rfl, F1.gi 89 31 rfl])
    show ∃ c, d_M_goQuarter_89_103_39 (n + 1) (on b) (on (hm h)) V2 = _ ∧ _
    rw [d_M_goQuarter_89_103_39, M2.1, if_pos (Int32.le_refl _), show ((12 : Int32)).toNatClampNeg = 12 from rfl, show ((13 : Int32)).toNatClampNeg = 13 from rfl, a3, a4, hF.gi 89 32 rfl, hF.gi 89 33 rfl, l1, l2, hn]
    obtain ⟨V3, e3, d3, F3⟩ := takes_eq hO M2 (show nw < 2147483648 by omega) (z.2.1 + qlif h f b z - qovr h f rm b z) G2
    rw [e3, bd_some]
    have hnn : z.1.toNatClampNeg = nw := by rw [hn, on_nn (by omega)]
    have hT : tk h (nw % 12) (ordL g (hm h)) (z.2.1 + qlif h f b z - qovr h f rm b z, 0) = qT h f (ordL g (hm h)) rm b z := by
      unfold qT
      rw [hnn, Int32.sub_eq_add_neg (qlif h f b z), ← Int32.add_assoc, ← Int32.sub_eq_add_neg]
    rw [hT] at d3 ⊢
    obtain ⟨t1, t2⟩ := tk_bits h (nw % 12) (ordL g (hm h)) (z.2.1 + qlif h f b z - qovr h f rm b z) (fun j hj => by have := ordL_mem hj; omega)
    rw [hT] at t1 t2
    have M4 : MH (sa V3 103 12 (qT h f (ordL g (hm h)) rm b z).1) h := (M2.fr F3 rfl).fr (w := ([], [103])) (Fr.sa Fr.rf rfl) rfl
    obtain ⟨V5, e5, Z5, F5⟩ := goQ104_103 (z := (z.1, (qT h f (ordL g (hm h)) rm b z).1, fun k => z.2.2.1 k - (if b.testBit k = true then tn h b else 0), z.2.2.2)) hO M4 (by rw [gi_sa]; exact d3) t1 (fun k hk hb => ordL_mem (t2 k hk hb)) (by
      have A3 : ga V3 103 = ga V2 103 := F3.ga 103 rfl
      refine ⟨?_, ?_, fun k hk => ⟨?_, ?_⟩⟩
      · rw [Nat.zero_add, ga_sa, if_neg (by omega), A3, a4]
      · rw [Nat.zero_add, ga_sa, if_pos ⟨rfl, rfl⟩]
      · rw [Nat.zero_add, ga_sa, if_neg (by omega), A3, a1 k hk]
        show _ - _ = z.2.2.1 k - _
        congr 1
        by_cases e4 : b.testBit k = true
        · rw [if_pos e4]
          by_cases e6 : k < hm h
          · rw [if_pos ⟨e6, e4⟩]
          · have hlt : b < 2 ^ k := Nat.lt_of_lt_of_le hb (Nat.pow_le_pow_right (by decide) (by omega))
            rw [Nat.testBit_lt_two_pow hlt] at e4
            cases e4
        · rw [if_neg e4, if_neg (fun hc => e4 hc.2)]
      · rw [Nat.zero_add, ga_sa, if_neg (by omega), A3, a2 k hk])
    refine ⟨V5, e5, ?_, ?_, ?_, ?_⟩
    · exact Z5
    · rw [F5.gi 89 32 rfl, gi_sa, F3.gi 89 32 rfl, hF.gi 89 32 rfl, l1]
    · rw [F5.gi 89 33 rfl, gi_sa, F3.gi 89 33 rfl, hF.gi 89 33 rfl, l2]
    · rw [F5.gi 89 29 rfl, gi_sa, d3]

