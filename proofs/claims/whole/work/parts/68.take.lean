/-! ===== printed by wip/gen/tmpl.py: wants are taken ===== -/
theorem take_16 {V : ai_V} {h : Hs} {l : List Nat} {nw : Nat} (hO : HO h) (hC : CH V h) (hl : CO V 9 l) (hlen : l.length = hm h) (hnd : l.Nodup) (hmem : ∀ j ∈ l, j < hm h) (hn : gi V 16 0 = on nw) (hnw : nw < 2147483648) :
    ∃ V', d_Wheel_take V = some V' ∧ gi V' 16 1 = (tk h (nw % 12) l (gi V 16 1, 0)).1 ∧ gi V' 15 4 = on (tk h (nw % 12) l (gi V 16 1, 0)).2 ∧ gi V' 15 5 = on (popc (tk h (nw % 12) l (gi V 16 1, 0)).2) ∧ ∀ k, k < 6 → ga V' 18 k = ga V 18 k + tf ((tk h (nw % 12) l (gi V 16 1, 0)).2.testBit k = true) := by
  have h6 := hO.1
  have eq : on nw - on nw / 12 * 12 = on (nw % 12) := q12_on hnw
  have hq : nw % 12 < 12 := Nat.mod_lt _ (by decide)
  rw [d_Wheel_take, d_State_quarterNow, hn, eq, bd_some]
  generalize nw % 12 = q at hq
  refine loop_n (fun n (_ : Unit) x V => d_Wheel_take_18 n (on q) x V) (fun c : ai_V => some c)
    (fun i _ V1 => gi V1 16 1 = (tk h q (l.take i) (gi V 16 1, 0)).1 ∧ gi V1 15 4 = on (tk h q (l.take i) (gi V 16 1, 0)).2 ∧ gi V1 15 5 = on (popc (tk h q (l.take i) (gi V 16 1, 0)).2) ∧ (∀ k, k < 6 → ga V1 18 k = ga V 18 k + tf ((tk h q (l.take i) (gi V 16 1, 0)).2.testBit k = true)) ∧ Fr w_Wheel_take V V1)
    (fun V' => gi V' 16 1 = (tk h q l (gi V 16 1, 0)).1 ∧ gi V' 15 4 = on (tk h q l (gi V 16 1, 0)).2 ∧ gi V' 15 5 = on (popc (tk h q l (gi V 16 1, 0)).2) ∧ ∀ k, k < 6 → ga V' 18 k = ga V 18 k + tf ((tk h q l (gi V 16 1, 0)).2.testBit k = true)) (hm h) ?_ ?_ (hm h) 0 ai_N () (si (si V 15 4 (0 : Int32)) 15 5 (0 : Int32)) (by omega) (N_gt (by omega)) ?_
  · rintro n _ i V1 e ⟨a1, a2, a3, a4, hF⟩
    have C1 := hC.fr hF rfl
    have L1 := hl.fr hF rfl
    show ∃ a' V', d_Wheel_take_18 (n + 1) (on q) (on i) V1 = _ ∧ _
    have hil : i < l.length := by omega
    have hO1 := L1 i hil
    have ht : l.take (i + 1) = l.take i ++ [l.getD i 0] := by
      rw [List.take_add_one]; simp [hil]
    have hjm : l.getD i 0 < hm h := hmem _ (by simp [hil])
    have hnt : l.getD i 0 ∉ l.take i := by
      have nd : (l.take (i + 1)).Nodup := hnd.sublist (List.take_sublist _ _)
      rw [ht, List.nodup_append] at nd
      intro hin
      exact nd.2.2 _ hin _ (by simp) rfl
    generalize l.getD i 0 = j at *
    obtain ⟨b1, b2⟩ := tk_bits h q (l.take i) (gi V 16 1) (fun k hk => by have := hmem k (List.mem_of_mem_take hk); omega)
    have hfr : (tk h q (l.take i) (gi V 16 1, 0)).2.testBit j = false := by
      cases hb : (tk h q (l.take i) (gi V 16 1, 0)).2.testBit j with
      | false => rfl
      | true => exact absurd (b2 j (by omega) hb) hnt
    rw [d_Wheel_take_18, C1.1, if_neg (by rw [on_le (by omega) (by omega)]; omega), if_pos (by rw [on_in (by omega)]; omega), on_nn (by omega), hO1, wantC_eq hO C1 hjm hq, bd_some, a1]
    have hin : ai_in (on j) 6 := by rw [on_in (by omega)]; omega
    have hs := tk_snoc h q (l.take i) j (gi V 16 1, 0)
    rw [← ht, tkS] at hs
    by_cases e2 : (tk h q (l.take i) (gi V 16 1, 0)).1 < wnt h j q
    · rw [if_pos e2] at hs
      rw [if_pos e2, if_pos hin, if_pos hin, d_Wheel_take_105, on_s]
      refine ⟨(), _, rfl, ?_, ?_, ?_, ?_, ?_⟩
      · simp only [gi_si, gi_sa]; simp [hs, a1]
      · simp only [gi_si, gi_sa]; simp [hs, a2, or_on _ b1 j (by omega)]
      · simp only [gi_si, gi_sa]; simp [hs, a3, (popc_or _ b1 j (by omega) hfr).1, on_s]
      · intro k hk
        simp only [ga_si, ga_sa, on_nn (show j < 2147483648 by omega), hs, true_and]
        by_cases e3 : k = j
        · rw [if_pos e3, e3, a4 j (by omega), tf_neg (by rw [hfr]; decide), tf_pos ((tb_or _ b1 j (by omega) j (by omega)).mpr (Or.inr rfl))]
          simp
        · rw [if_neg e3, a4 k hk]
          congr 1
          refine tf_congr ?_
          rw [tb_or _ b1 j (by omega) k hk]; simp [e3]
      · exact Fr.si (Fr.si (Fr.sa hF rfl) rfl) rfl
    · rw [if_neg e2] at hs
      rw [if_neg e2, d_Wheel_take_105, on_s]
      refine ⟨(), _, rfl, ?_, ?_, ?_, ?_, ?_⟩
      · simp only [gi_si]; simp [hs]
      · simp only [gi_si]; simp [hs, a2]
      · simp only [gi_si]; simp [hs, a3]
      · intro k hk
        simp only [ga_si, hs]; exact a4 k hk
      · exact Fr.si hF rfl
  · rintro n _ V1 ⟨a1, a2, a3, a4, hF⟩
    have C1 := hC.fr hF rfl
    show ∃ c, d_Wheel_take_18 (n + 1) (on q) (on (hm h)) V1 = _ ∧ _
    rw [d_Wheel_take_18, C1.1, if_pos (Int32.le_refl _)]
    rw [List.take_of_length_le (by omega)] at a1 a2 a3 a4
    exact ⟨V1, rfl, a1, a2, a3, a4⟩
  · refine ⟨?_, ?_, ?_, ?_, Fr.si (Fr.si Fr.rf rfl) rfl⟩
    · simp only [gi_si]; simp [tk]
    · simp only [gi_si]; simp [tk]; rfl
    · simp only [gi_si]; simp [tk]; rfl
    · intro k hk
      simp only [ga_si]
      simp [tk, tf]

theorem take_19 {V : ai_V} {h : Hs} {l : List Nat} {nw : Nat} (hO : HO h) (hC : CH V h) (hl : CO V 9 l) (hlen : l.length = hm h) (hnd : l.Nodup) (hmem : ∀ j ∈ l, j < hm h) (hn : gi V 19 0 = on nw) (hnw : nw < 2147483648) :
    ∃ V', d_Wheel_take_15_19_9 V = some V' ∧ gi V' 19 1 = (tk h (nw % 12) l (gi V 19 1, 0)).1 ∧ gi V' 15 4 = on (tk h (nw % 12) l (gi V 19 1, 0)).2 ∧ gi V' 15 5 = on (popc (tk h (nw % 12) l (gi V 19 1, 0)).2) ∧ ∀ k, k < 6 → ga V' 21 k = ga V 21 k + tf ((tk h (nw % 12) l (gi V 19 1, 0)).2.testBit k = true) := by
  have h6 := hO.1
  have eq : on nw - on nw / 12 * 12 = on (nw % 12) := q12_on hnw
  have hq : nw % 12 < 12 := Nat.mod_lt _ (by decide)
  rw [d_Wheel_take_15_19_9, d_State_quarterNow_19, hn, eq, bd_some]
  generalize nw % 12 = q at hq
  refine loop_n (fun n (_ : Unit) x V => d_Wheel_take_15_19_9_18 n (on q) x V) (fun c : ai_V => some c)
    (fun i _ V1 => gi V1 19 1 = (tk h q (l.take i) (gi V 19 1, 0)).1 ∧ gi V1 15 4 = on (tk h q (l.take i) (gi V 19 1, 0)).2 ∧ gi V1 15 5 = on (popc (tk h q (l.take i) (gi V 19 1, 0)).2) ∧ (∀ k, k < 6 → ga V1 21 k = ga V 21 k + tf ((tk h q (l.take i) (gi V 19 1, 0)).2.testBit k = true)) ∧ Fr w_Wheel_take_15_19_9 V V1)
    (fun V' => gi V' 19 1 = (tk h q l (gi V 19 1, 0)).1 ∧ gi V' 15 4 = on (tk h q l (gi V 19 1, 0)).2 ∧ gi V' 15 5 = on (popc (tk h q l (gi V 19 1, 0)).2) ∧ ∀ k, k < 6 → ga V' 21 k = ga V 21 k + tf ((tk h q l (gi V 19 1, 0)).2.testBit k = true)) (hm h) ?_ ?_ (hm h) 0 ai_N () (si (si V 15 4 (0 : Int32)) 15 5 (0 : Int32)) (by omega) (N_gt (by omega)) ?_
  · rintro n _ i V1 e ⟨a1, a2, a3, a4, hF⟩
    have C1 := hC.fr hF rfl
    have L1 := hl.fr hF rfl
    show ∃ a' V', d_Wheel_take_15_19_9_18 (n + 1) (on q) (on i) V1 = _ ∧ _
    have hil : i < l.length := by omega
    have hO1 := L1 i hil
    have ht : l.take (i + 1) = l.take i ++ [l.getD i 0] := by
      rw [List.take_add_one]; simp [hil]
    have hjm : l.getD i 0 < hm h := hmem _ (by simp [hil])
    have hnt : l.getD i 0 ∉ l.take i := by
      have nd : (l.take (i + 1)).Nodup := hnd.sublist (List.take_sublist _ _)
      rw [ht, List.nodup_append] at nd
      intro hin
      exact nd.2.2 _ hin _ (by simp) rfl
    generalize l.getD i 0 = j at *
    obtain ⟨b1, b2⟩ := tk_bits h q (l.take i) (gi V 19 1) (fun k hk => by have := hmem k (List.mem_of_mem_take hk); omega)
    have hfr : (tk h q (l.take i) (gi V 19 1, 0)).2.testBit j = false := by
      cases hb : (tk h q (l.take i) (gi V 19 1, 0)).2.testBit j with
      | false => rfl
      | true => exact absurd (b2 j (by omega) hb) hnt
    rw [d_Wheel_take_15_19_9_18, C1.1, if_neg (by rw [on_le (by omega) (by omega)]; omega), if_pos (by rw [on_in (by omega)]; omega), on_nn (by omega), hO1, wantC_eq hO C1 hjm hq, bd_some, a1]
    have hin : ai_in (on j) 6 := by rw [on_in (by omega)]; omega
    have hs := tk_snoc h q (l.take i) j (gi V 19 1, 0)
    rw [← ht, tkS] at hs
    by_cases e2 : (tk h q (l.take i) (gi V 19 1, 0)).1 < wnt h j q
    · rw [if_pos e2] at hs
      rw [if_pos e2, if_pos hin, if_pos hin, d_Wheel_take_15_19_9_105, on_s]
      refine ⟨(), _, rfl, ?_, ?_, ?_, ?_, ?_⟩
      · simp only [gi_si, gi_sa]; simp [hs, a1]
      · simp only [gi_si, gi_sa]; simp [hs, a2, or_on _ b1 j (by omega)]
      · simp only [gi_si, gi_sa]; simp [hs, a3, (popc_or _ b1 j (by omega) hfr).1, on_s]
      · intro k hk
        simp only [ga_si, ga_sa, on_nn (show j < 2147483648 by omega), hs, true_and]
        by_cases e3 : k = j
        · rw [if_pos e3, e3, a4 j (by omega), tf_neg (by rw [hfr]; decide), tf_pos ((tb_or _ b1 j (by omega) j (by omega)).mpr (Or.inr rfl))]
          simp
        · rw [if_neg e3, a4 k hk]
          congr 1
          refine tf_congr ?_
          rw [tb_or _ b1 j (by omega) k hk]; simp [e3]
      · exact Fr.si (Fr.si (Fr.sa hF rfl) rfl) rfl
    · rw [if_neg e2] at hs
      rw [if_neg e2, d_Wheel_take_15_19_9_105, on_s]
      refine ⟨(), _, rfl, ?_, ?_, ?_, ?_, ?_⟩
      · simp only [gi_si]; simp [hs]
      · simp only [gi_si]; simp [hs, a2]
      · simp only [gi_si]; simp [hs, a3]
      · intro k hk
        simp only [ga_si, hs]; exact a4 k hk
      · exact Fr.si hF rfl
  · rintro n _ V1 ⟨a1, a2, a3, a4, hF⟩
    have C1 := hC.fr hF rfl
    show ∃ c, d_Wheel_take_15_19_9_18 (n + 1) (on q) (on (hm h)) V1 = _ ∧ _
    rw [d_Wheel_take_15_19_9_18, C1.1, if_pos (Int32.le_refl _)]
    rw [List.take_of_length_le (by omega)] at a1 a2 a3 a4
    exact ⟨V1, rfl, a1, a2, a3, a4⟩
  · refine ⟨?_, ?_, ?_, ?_, Fr.si (Fr.si Fr.rf rfl) rfl⟩
    · simp only [gi_si]; simp [tk]
    · simp only [gi_si]; simp [tk]; rfl
    · simp only [gi_si]; simp [tk]; rfl
    · intro k hk
      simp only [ga_si]
      simp [tk, tf]

theorem take_65 {V : ai_V} {h : Hs} {l : List Nat} {nw : Nat} (hO : HO h) (hC : CH V h) (hl : CO V 9 l) (hlen : l.length = hm h) (hnd : l.Nodup) (hmem : ∀ j ∈ l, j < hm h) (hn : gi V 65 0 = on nw) (hnw : nw < 2147483648) :
    ∃ V', d_Wheel_take_15_65_9 V = some V' ∧ gi V' 65 1 = (tk h (nw % 12) l (gi V 65 1, 0)).1 ∧ gi V' 15 4 = on (tk h (nw % 12) l (gi V 65 1, 0)).2 ∧ gi V' 15 5 = on (popc (tk h (nw % 12) l (gi V 65 1, 0)).2) ∧ ∀ k, k < 6 → ga V' 67 k = ga V 67 k + tf ((tk h (nw % 12) l (gi V 65 1, 0)).2.testBit k = true) := by
  have h6 := hO.1
  have eq : on nw - on nw / 12 * 12 = on (nw % 12) := q12_on hnw
  have hq : nw % 12 < 12 := Nat.mod_lt _ (by decide)
  rw [d_Wheel_take_15_65_9, d_State_quarterNow_65, hn, eq, bd_some]
  generalize nw % 12 = q at hq
  refine loop_n (fun n (_ : Unit) x V => d_Wheel_take_15_65_9_18 n (on q) x V) (fun c : ai_V => some c)
    (fun i _ V1 => gi V1 65 1 = (tk h q (l.take i) (gi V 65 1, 0)).1 ∧ gi V1 15 4 = on (tk h q (l.take i) (gi V 65 1, 0)).2 ∧ gi V1 15 5 = on (popc (tk h q (l.take i) (gi V 65 1, 0)).2) ∧ (∀ k, k < 6 → ga V1 67 k = ga V 67 k + tf ((tk h q (l.take i) (gi V 65 1, 0)).2.testBit k = true)) ∧ Fr w_Wheel_take_15_65_9 V V1)
    (fun V' => gi V' 65 1 = (tk h q l (gi V 65 1, 0)).1 ∧ gi V' 15 4 = on (tk h q l (gi V 65 1, 0)).2 ∧ gi V' 15 5 = on (popc (tk h q l (gi V 65 1, 0)).2) ∧ ∀ k, k < 6 → ga V' 67 k = ga V 67 k + tf ((tk h q l (gi V 65 1, 0)).2.testBit k = true)) (hm h) ?_ ?_ (hm h) 0 ai_N () (si (si V 15 4 (0 : Int32)) 15 5 (0 : Int32)) (by omega) (N_gt (by omega)) ?_
  · rintro n _ i V1 e ⟨a1, a2, a3, a4, hF⟩
    have C1 := hC.fr hF rfl
    have L1 := hl.fr hF rfl
    show ∃ a' V', d_Wheel_take_15_65_9_18 (n + 1) (on q) (on i) V1 = _ ∧ _
    have hil : i < l.length := by omega
    have hO1 := L1 i hil
    have ht : l.take (i + 1) = l.take i ++ [l.getD i 0] := by
      rw [List.take_add_one]; simp [hil]
    have hjm : l.getD i 0 < hm h := hmem _ (by simp [hil])
    have hnt : l.getD i 0 ∉ l.take i := by
      have nd : (l.take (i + 1)).Nodup := hnd.sublist (List.take_sublist _ _)
      rw [ht, List.nodup_append] at nd
      intro hin
      exact nd.2.2 _ hin _ (by simp) rfl
    generalize l.getD i 0 = j at *
    obtain ⟨b1, b2⟩ := tk_bits h q (l.take i) (gi V 65 1) (fun k hk => by have := hmem k (List.mem_of_mem_take hk); omega)
    have hfr : (tk h q (l.take i) (gi V 65 1, 0)).2.testBit j = false := by
      cases hb : (tk h q (l.take i) (gi V 65 1, 0)).2.testBit j with
      | false => rfl
      | true => exact absurd (b2 j (by omega) hb) hnt
    rw [d_Wheel_take_15_65_9_18, C1.1, if_neg (by rw [on_le (by omega) (by omega)]; omega), if_pos (by rw [on_in (by omega)]; omega), on_nn (by omega), hO1, wantC_eq hO C1 hjm hq, bd_some, a1]
    have hin : ai_in (on j) 6 := by rw [on_in (by omega)]; omega
    have hs := tk_snoc h q (l.take i) j (gi V 65 1, 0)
    rw [← ht, tkS] at hs
    by_cases e2 : (tk h q (l.take i) (gi V 65 1, 0)).1 < wnt h j q
    · rw [if_pos e2] at hs
      rw [if_pos e2, if_pos hin, if_pos hin, d_Wheel_take_15_65_9_105, on_s]
      refine ⟨(), _, rfl, ?_, ?_, ?_, ?_, ?_⟩
      · simp only [gi_si, gi_sa]; simp [hs, a1]
      · simp only [gi_si, gi_sa]; simp [hs, a2, or_on _ b1 j (by omega)]
      · simp only [gi_si, gi_sa]; simp [hs, a3, (popc_or _ b1 j (by omega) hfr).1, on_s]
      · intro k hk
        simp only [ga_si, ga_sa, on_nn (show j < 2147483648 by omega), hs, true_and]
        by_cases e3 : k = j
        · rw [if_pos e3, e3, a4 j (by omega), tf_neg (by rw [hfr]; decide), tf_pos ((tb_or _ b1 j (by omega) j (by omega)).mpr (Or.inr rfl))]
          simp
        · rw [if_neg e3, a4 k hk]
          congr 1
          refine tf_congr ?_
          rw [tb_or _ b1 j (by omega) k hk]; simp [e3]
      · exact Fr.si (Fr.si (Fr.sa hF rfl) rfl) rfl
    · rw [if_neg e2] at hs
      rw [if_neg e2, d_Wheel_take_15_65_9_105, on_s]
      refine ⟨(), _, rfl, ?_, ?_, ?_, ?_, ?_⟩
      · simp only [gi_si]; simp [hs]
      · simp only [gi_si]; simp [hs, a2]
      · simp only [gi_si]; simp [hs, a3]
      · intro k hk
        simp only [ga_si, hs]; exact a4 k hk
      · exact Fr.si hF rfl
  · rintro n _ V1 ⟨a1, a2, a3, a4, hF⟩
    have C1 := hC.fr hF rfl
    show ∃ c, d_Wheel_take_15_65_9_18 (n + 1) (on q) (on (hm h)) V1 = _ ∧ _
    rw [d_Wheel_take_15_65_9_18, C1.1, if_pos (Int32.le_refl _)]
    rw [List.take_of_length_le (by omega)] at a1 a2 a3 a4
    exact ⟨V1, rfl, a1, a2, a3, a4⟩
  · refine ⟨?_, ?_, ?_, ?_, Fr.si (Fr.si Fr.rf rfl) rfl⟩
    · simp only [gi_si]; simp [tk]
    · simp only [gi_si]; simp [tk]; rfl
    · simp only [gi_si]; simp [tk]; rfl
    · intro k hk
      simp only [ga_si]
      simp [tk, tf]

theorem take_82 {V : ai_V} {h : Hs} {l : List Nat} {nw : Nat} (hO : HO h) (hC : CH V h) (hl : CO V 82 l) (hlen : l.length = hm h) (hnd : l.Nodup) (hmem : ∀ j ∈ l, j < hm h) (hn : gi V 19 0 = on nw) (hnw : nw < 2147483648) :
    ∃ V', d_Wheel_take_15_19_82 V = some V' ∧ gi V' 19 1 = (tk h (nw % 12) l (gi V 19 1, 0)).1 ∧ gi V' 15 4 = on (tk h (nw % 12) l (gi V 19 1, 0)).2 ∧ gi V' 15 5 = on (popc (tk h (nw % 12) l (gi V 19 1, 0)).2) ∧ ∀ k, k < 6 → ga V' 21 k = ga V 21 k + tf ((tk h (nw % 12) l (gi V 19 1, 0)).2.testBit k = true) := by
  have h6 := hO.1
  have eq : on nw - on nw / 12 * 12 = on (nw % 12) := q12_on hnw
  have hq : nw % 12 < 12 := Nat.mod_lt _ (by decide)
  rw [d_Wheel_take_15_19_82, d_State_quarterNow_19, hn, eq, bd_some]
  generalize nw % 12 = q at hq
  refine loop_n (fun n (_ : Unit) x V => d_Wheel_take_15_19_82_18 n (on q) x V) (fun c : ai_V => some c)
    (fun i _ V1 => gi V1 19 1 = (tk h q (l.take i) (gi V 19 1, 0)).1 ∧ gi V1 15 4 = on (tk h q (l.take i) (gi V 19 1, 0)).2 ∧ gi V1 15 5 = on (popc (tk h q (l.take i) (gi V 19 1, 0)).2) ∧ (∀ k, k < 6 → ga V1 21 k = ga V 21 k + tf ((tk h q (l.take i) (gi V 19 1, 0)).2.testBit k = true)) ∧ Fr w_Wheel_take_15_19_82 V V1)
    (fun V' => gi V' 19 1 = (tk h q l (gi V 19 1, 0)).1 ∧ gi V' 15 4 = on (tk h q l (gi V 19 1, 0)).2 ∧ gi V' 15 5 = on (popc (tk h q l (gi V 19 1, 0)).2) ∧ ∀ k, k < 6 → ga V' 21 k = ga V 21 k + tf ((tk h q l (gi V 19 1, 0)).2.testBit k = true)) (hm h) ?_ ?_ (hm h) 0 ai_N () (si (si V 15 4 (0 : Int32)) 15 5 (0 : Int32)) (by omega) (N_gt (by omega)) ?_
  · rintro n _ i V1 e ⟨a1, a2, a3, a4, hF⟩
    have C1 := hC.fr hF rfl
    have L1 := hl.fr hF rfl
    show ∃ a' V', d_Wheel_take_15_19_82_18 (n + 1) (on q) (on i) V1 = _ ∧ _
    have hil : i < l.length := by omega
    have hO1 := L1 i hil
    have ht : l.take (i + 1) = l.take i ++ [l.getD i 0] := by
      rw [List.take_add_one]; simp [hil]
    have hjm : l.getD i 0 < hm h := hmem _ (by simp [hil])
    have hnt : l.getD i 0 ∉ l.take i := by
      have nd : (l.take (i + 1)).Nodup := hnd.sublist (List.take_sublist _ _)
      rw [ht, List.nodup_append] at nd
      intro hin
      exact nd.2.2 _ hin _ (by simp) rfl
    generalize l.getD i 0 = j at *
    obtain ⟨b1, b2⟩ := tk_bits h q (l.take i) (gi V 19 1) (fun k hk => by have := hmem k (List.mem_of_mem_take hk); omega)
    have hfr : (tk h q (l.take i) (gi V 19 1, 0)).2.testBit j = false := by
      cases hb : (tk h q (l.take i) (gi V 19 1, 0)).2.testBit j with
      | false => rfl
      | true => exact absurd (b2 j (by omega) hb) hnt
    rw [d_Wheel_take_15_19_82_18, C1.1, if_neg (by rw [on_le (by omega) (by omega)]; omega), if_pos (by rw [on_in (by omega)]; omega), on_nn (by omega), hO1, wantC_eq hO C1 hjm hq, bd_some, a1]
    have hin : ai_in (on j) 6 := by rw [on_in (by omega)]; omega
    have hs := tk_snoc h q (l.take i) j (gi V 19 1, 0)
    rw [← ht, tkS] at hs
    by_cases e2 : (tk h q (l.take i) (gi V 19 1, 0)).1 < wnt h j q
    · rw [if_pos e2] at hs
      rw [if_pos e2, if_pos hin, if_pos hin, d_Wheel_take_15_19_82_105, on_s]
      refine ⟨(), _, rfl, ?_, ?_, ?_, ?_, ?_⟩
      · simp only [gi_si, gi_sa]; simp [hs, a1]
      · simp only [gi_si, gi_sa]; simp [hs, a2, or_on _ b1 j (by omega)]
      · simp only [gi_si, gi_sa]; simp [hs, a3, (popc_or _ b1 j (by omega) hfr).1, on_s]
      · intro k hk
        simp only [ga_si, ga_sa, on_nn (show j < 2147483648 by omega), hs, true_and]
        by_cases e3 : k = j
        · rw [if_pos e3, e3, a4 j (by omega), tf_neg (by rw [hfr]; decide), tf_pos ((tb_or _ b1 j (by omega) j (by omega)).mpr (Or.inr rfl))]
          simp
        · rw [if_neg e3, a4 k hk]
          congr 1
          refine tf_congr ?_
          rw [tb_or _ b1 j (by omega) k hk]; simp [e3]
      · exact Fr.si (Fr.si (Fr.sa hF rfl) rfl) rfl
    · rw [if_neg e2] at hs
      rw [if_neg e2, d_Wheel_take_15_19_82_105, on_s]
      refine ⟨(), _, rfl, ?_, ?_, ?_, ?_, ?_⟩
      · simp only [gi_si]; simp [hs]
      · simp only [gi_si]; simp [hs, a2]
      · simp only [gi_si]; simp [hs, a3]
      · intro k hk
        simp only [ga_si, hs]; exact a4 k hk
      · exact Fr.si hF rfl
  · rintro n _ V1 ⟨a1, a2, a3, a4, hF⟩
    have C1 := hC.fr hF rfl
    show ∃ c, d_Wheel_take_15_19_82_18 (n + 1) (on q) (on (hm h)) V1 = _ ∧ _
    rw [d_Wheel_take_15_19_82_18, C1.1, if_pos (Int32.le_refl _)]
    rw [List.take_of_length_le (by omega)] at a1 a2 a3 a4
    exact ⟨V1, rfl, a1, a2, a3, a4⟩
  · refine ⟨?_, ?_, ?_, ?_, Fr.si (Fr.si Fr.rf rfl) rfl⟩
    · simp only [gi_si]; simp [tk]
    · simp only [gi_si]; simp [tk]; rfl
    · simp only [gi_si]; simp [tk]; rfl
    · intro k hk
      simp only [ga_si]
      simp [tk, tf]

