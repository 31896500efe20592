/-! ===== ahead, pays ===== -/
theorem st_ahead {N : Nat} {V : ai_V} (hI : Inv N V) (hN : N < 512) (x : Int32) : ∃ v V2, d_X_ahead x V = some v ∧ d_M_ahead x V = some (v, V2) ∧ Inv (N + 1) V2 := by
  obtain ⟨h, f, z, rm, nw, kc, km, hS, hn, hb⟩ := hI.k
  have hO := kc.1
  have h6 := hO.1
  rcases hasX kc.1 x with ⟨i, hi, rfl⟩ | hx
  · obtain ⟨c1, c2⟩ := chg_ti hO hi hO.2.1
    have e0 : (0 : Int32).toInt = 0 := rfl
    have hzt : z.1.toInt = nw := by rw [hn, on_ti (by omega)]
    have hdb : -2000000 ≤ (z.2.2.1 i).toInt ∧ (z.2.2.1 i).toInt ≤ 2000000 := by
      have := (hS.1.2.2 i (by omega)).1
      rw [hzt] at this; omega
    generalize hD : z.2.2.1 i = D at *
    generalize hc : hdu h * (hst h i + 1) = c at *
    -- where it ends
    let E : Nat → Prop := fun k => 99 ≤ k ∨ 0 < D.toInt ∨ 0 < D.toInt + (k + 1) * c.toInt
    have X : ∃ k, d_X_ahead (on i) V = some (on k) ∧ E k ∧ (∀ j, j < k → ¬ E j) ∧ k ≤ 99 := by
      have hin : ai_in (on i) 6 := by rw [on_in (by omega)]; omega
      rw [d_X_ahead, has_eq kc.2.1, bd_some, if_pos (by rw [tf_pos (on_has hO hi)]; decide), if_pos hin, d_House_chargeOf, if_pos hin, bd_some, on_nn (by omega), kc.2.1.2.1, kc.2.1.2.2.2.1, hc]
      have hd17 : ga V 17 i = D := by rw [(hS.2.1.2.2 i (by omega)).1, hD]
      rw [hd17]
      have := loop_p (fun n (a : Int32) y => d_X_ahead_42 n a c y V) (fun k : Nat => some (on k)) (fun k a => a.toInt = D.toInt + k * c.toInt ∧ ∀ j, j < k → ¬ E j) (fun k => E k ∧ (∀ j, j < k → ¬ E j) ∧ k ≤ 99) 99 ?_ ?_ 99 0 ai_N D (by omega) (N_gt (by omega)) ⟨by simp, fun j hj => absurd hj (by omega)⟩
      · obtain ⟨k, q⟩ := this
        exact ⟨k, q⟩
      · rintro n a k hk ⟨ha, hj⟩
        show (∃ a' : Int32, d_X_ahead_42 (n + 1) a c (on k) V = _ ∧ _) ∨ (∃ q : Nat, d_X_ahead_42 (n + 1) a c (on k) V = _ ∧ _)
        have hkc : 0 ≤ (k : Int) * c.toInt ∧ (k : Int) * c.toInt ≤ 99 * 54 := ⟨Int.mul_nonneg (by omega) c1, Int.mul_le_mul (by omega) c2 c1 (by omega)⟩
        have hsum : (a + c).toInt = D.toInt + k * c.toInt + c.toInt := by rw [ti_add (by omega) (by omega), ha]
        have hk1 : ((k : Int) + 1) * c.toInt = k * c.toInt + c.toInt := by rw [Int.add_mul, Int.one_mul]
        rw [d_X_ahead_42, if_neg (by rw [show (99 : Int32) = on 99 from rfl, on_le (by omega) (by omega)]; omega)]
        by_cases e1 : 0 < a
        · right
          rw [if_pos e1]
          rw [ti_lt] at e1
          refine ⟨k, rfl, ?_, hj, by omega⟩
          show 99 ≤ k ∨ 0 < D.toInt ∨ 0 < D.toInt + ((k : Int) + 1) * c.toInt
          rw [hk1]
          omega
        · rw [if_neg e1]
          rw [ti_lt] at e1
          by_cases e2 : 0 < a + c
          · right
            rw [if_pos e2]
            rw [ti_lt, hsum] at e2
            refine ⟨k, rfl, ?_, hj, by omega⟩
            show 99 ≤ k ∨ 0 < D.toInt ∨ 0 < D.toInt + ((k : Int) + 1) * c.toInt
            rw [hk1]
            omega
          · left
            rw [if_neg e2, on_s]
            rw [ti_lt, hsum] at e2
            refine ⟨a + c, rfl, ?_, fun j hj1 => ?_⟩
            · rw [hsum]
              have : ((k + 1 : Nat) : Int) * c.toInt = (k : Int) * c.toInt + c.toInt := by rw [Int.natCast_add, Int.add_mul]; simp
              omega
            · by_cases ej : j = k
              · subst ej
                show ¬ (99 ≤ j ∨ 0 < D.toInt ∨ 0 < D.toInt + ((j : Int) + 1) * c.toInt)
                rw [hk1]
                omega
              · exact hj j (by omega)
      · rintro n a ⟨ha, hj⟩
        show ∃ q : Nat, d_X_ahead_42 (n + 1) a c (on 99) V = _ ∧ _
        rw [d_X_ahead_42, if_pos (by decide)]
        exact ⟨99, rfl, Or.inl (by omega), hj, by omega⟩
    have hM1 := (km.s14 0).2.1
    have M : ∃ k, d_M_ahead (on i) V = some (on k, si V 89 14 0) ∧ E k ∧ (∀ j, j < k → ¬ E j) ∧ k ≤ 99 := by
      have hin : ai_in (on i) 6 := by rw [on_in (by omega)]; omega
      have hin' : ai_in (on i) 14 := by rw [on_in (by omega)]; omega
      rw [d_M_ahead, isOne_eq hO hM1, bd_some, if_pos (by rw [tf_pos (on_has hO hi)]; decide)]
      have hd90 : ga (si V 89 14 0) 90 (on i).toNatClampNeg = D := by
        rw [on_nn (by omega)]
        have := (hS.2.2.1.2.2 i (by omega)).1
        rw [Nat.zero_add, hD] at this
        exact this
      have hst91 : ga (si V 89 14 0) 91 (on i).toNatClampNeg = hst h i := by rw [on_nn (by omega), hM1.2.2.2.1]
      have := loop_p (fun n (_ : Unit) y => d_M_ahead_17 n (on i) y (si V 89 14 0)) (fun k : Nat => some (on k, si V 89 14 0)) (fun k _ => ∀ j, j < k → ¬ E j) (fun k => E k ∧ (∀ j, j < k → ¬ E j) ∧ k ≤ 99) 99 ?_ ?_ 99 0 ai_N () (by omega) (N_gt (by omega)) (fun j hj => absurd hj (by omega))
      · obtain ⟨k, q⟩ := this
        exact ⟨k, q⟩
      · rintro n _ k hk hj
        show (∃ a' : Unit, d_M_ahead_17 (n + 1) (on i) (on k) (si V 89 14 0) = _ ∧ _) ∨ (∃ q : Nat, d_M_ahead_17 (n + 1) (on i) (on k) (si V 89 14 0) = _ ∧ _)
        have hkc : 0 ≤ ((k : Int) + 1) * c.toInt ∧ ((k : Int) + 1) * c.toInt ≤ 99 * 54 := ⟨Int.mul_nonneg (by omega) c1, Int.mul_le_mul (by omega) c2 c1 (by omega)⟩
        have hmul : (on k + 1) * hdu h * (hst h i + 1) = on (k + 1) * c := by rw [Int32.mul_assoc, hc, on_s]
        have hmi : (on (k + 1) * c).toInt = ((k : Int) + 1) * c.toInt := by
          have hk1 : (on (k + 1)).toInt = (k : Int) + 1 := by rw [on_ti (by omega)]; omega
          rw [ti_mul (by rw [hk1]; omega) (by rw [hk1]; omega), hk1]
        have hsum : (D + on (k + 1) * c).toInt = D.toInt + ((k : Int) + 1) * c.toInt := by rw [ti_add (by rw [hmi]; omega) (by rw [hmi]; omega), hmi]
        rw [d_M_ahead_17, if_pos hin', hd90]
        by_cases e1 : 0 < D
        · right
          rw [if_pos e1]
          rw [ti_lt] at e1
          exact ⟨k, rfl, Or.inr (Or.inl (by omega)), hj, by omega⟩
        · rw [if_neg e1, if_neg (by rw [show (99 : Int32) = on 99 from rfl, on_le (by omega) (by omega)]; omega), if_pos hin', if_pos hin, hM1.2.1, hst91, hmul]
          rw [ti_lt] at e1
          by_cases e2 : 0 < D + on (k + 1) * c
          · right
            rw [if_pos e2]
            rw [ti_lt, hsum] at e2
            exact ⟨k, rfl, Or.inr (Or.inr (by omega)), hj, by omega⟩
          · left
            rw [if_neg e2, on_s]
            rw [ti_lt, hsum] at e2
            refine ⟨(), rfl, fun j hj1 => ?_⟩
            by_cases ej : j = k
            · subst ej
              show ¬ (99 ≤ j ∨ 0 < D.toInt ∨ 0 < D.toInt + ((j : Int) + 1) * c.toInt)
              omega
            · exact hj j (by omega)
      · rintro n _ hj
        show ∃ q : Nat, d_M_ahead_17 (n + 1) (on i) (on 99) (si V 89 14 0) = _ ∧ _
        rw [d_M_ahead_17, if_pos hin', hd90]
        by_cases e1 : 0 < D
        · rw [if_pos e1]
          exact ⟨99, rfl, Or.inl (by omega), hj, by omega⟩
        · rw [if_neg e1, if_pos (by decide)]
          exact ⟨99, rfl, Or.inl (by omega), hj, by omega⟩
    obtain ⟨k, q1, q2, q3, -⟩ := X
    obtain ⟨k', r1, r2, r3, -⟩ := M
    have ek : k = k' := by
      rcases Nat.lt_trichotomy k k' with q | q | q
      · exact absurd q2 (r3 k q)
      · exact q
      · exact absurd r2 (q3 k' q)
    subst ek
    exact ⟨_, _, q1, r1, hI.no 0⟩
  · refine ⟨-1, si V 89 14 0, ?_, ?_, hI.no 0⟩
    · rw [d_X_ahead, has_eq kc.2.1, bd_some, if_neg (fun hn => hn (tf_neg hx))]
    · rw [d_M_ahead, isOne_eq hO (km.s14 0).2.1, bd_some, if_neg (fun hn => hn (tf_neg hx))]
/-! pays -/
def pE (z : Ss) (k : Nat) : Int32 := (z.1 + on k) / 12 - z.1 / 12
def tp (h : Hs) (z : Ss) (i k : Nat) : Int32 := (ai_max 0 (z.2.2.1 i + pE z k * hdu h * (hst h i + 1)) + hpc h i - 1) / hpc h i
theorem pE_eq {z : Ss} {nw k : Nat} (hn : z.1 = on nw) (hnw : nw < 2000000) (hk : k ≤ 41) : ∃ e, pE z k = on e ∧ e ≤ 4 := by
  refine ⟨(nw + k) / 12 - nw / 12, ?_, by omega⟩
  unfold pE
  rw [hn, on_add, show (12 : Int32) = on 12 from rfl, on_div (by omega) (by omega), on_div (by omega) (by omega), on_sub (by omega)]
theorem owed_rng {N : Nat} {V : ai_V} {h : Hs} {z : Ss} {rm : Int32} {nw i k : Nat} (hO : HO h) (hS : IS N V h z rm) (hn : z.1 = on nw) (hnw : nw < 30000) (hi : i < hm h) (hk : k ≤ 41) : (z.2.2.1 i + pE z k * hdu h * (hst h i + 1)).toInt < 2147483000 := by
  have h6 := hO.1
  obtain ⟨e, he, he4⟩ := pE_eq hn (by omega) hk
  obtain ⟨c1, c2⟩ := chg_ti hO hi hO.2.1
  have hzt : z.1.toInt = nw := by rw [hn, on_ti (by omega)]
  have hd := (hS.1.2.2 i (by omega)).1
  rw [hzt] at hd
  have hm : (pE z k * hdu h * (hst h i + 1)).toInt = (e : Int) * (hdu h * (hst h i + 1)).toInt := by
    have hb : 0 ≤ (e : Int) * (hdu h * (hst h i + 1)).toInt ∧ (e : Int) * (hdu h * (hst h i + 1)).toInt ≤ 4 * 54 := ⟨Int.mul_nonneg (by omega) c1, Int.mul_le_mul (by omega) c2 c1 (by omega)⟩
    rw [he, Int32.mul_assoc, ti_mul (by rw [on_ti (by omega)]; omega) (by rw [on_ti (by omega)]; omega), on_ti (by omega)]
  have hb : 0 ≤ (e : Int) * (hdu h * (hst h i + 1)).toInt ∧ (e : Int) * (hdu h * (hst h i + 1)).toInt ≤ 4 * 54 := ⟨Int.mul_nonneg (by omega) c1, Int.mul_le_mul (by omega) c2 c1 (by omega)⟩
  rw [ti_add (by rw [hm]; omega) (by rw [hm]; omega), hm]; omega
theorem tpC {N : Nat} {V V1 : ai_V} {h : Hs} {z : Ss} {rm : Int32} {nw i k : Nat} (hO : HO h) (hC : CH V1 h) (hS : IS N V h z rm) (hz : cS z V1 16) (hn : z.1 = on nw) (hnw : nw < 30000) (hi : i < hm h) (hk : k ≤ 41) : d_X_treadsToPay (on i) (on k) V1 = some (tp h z i k) := by
  have h6 := hO.1
  have hin : ai_in (on i) 6 := by rw [on_in (by omega)]; omega
  obtain ⟨-, ⟨p1, p2⟩, -⟩ := hO.2.2 i hi
  have ho := owed_rng hO hS hn hnw hi hk
  rw [Int32.mul_assoc] at ho
  obtain ⟨v, e1, e2⟩ := treadsFor_eq hO hC hi (z.2.2.1 i + pE z k * (hdu h * (hst h i + 1)))
  have hpe : (z.1 + on k) / 12 - z.1 / 12 = pE z k := rfl
  have h17 : ga V1 17 i = z.2.2.1 i := (hz.2.2 i (by omega)).1
  rw [d_X_treadsToPay, if_pos hin, d_House_chargeOf, if_pos hin, bd_some, on_nn (by omega), hC.2.1, hC.2.2.2.1, h17, hz.1, hpe, e1]
  show some v = _
  congr 1
  rw [ti_eq, e2, tp, Int32.mul_assoc, tdM p1 p2 ho]
theorem tpM {V1 : ai_V} {h : Hs} {z : Ss} {i k : Nat} (hO : HO h) (hM : MH V1 h) (hz : mS z V1 90 0) (hi : i < hm h) : d_M_treads (on i) (pE z k) V1 = some (tp h z i k) := by
  have h6 := hO.1
  have hin : ai_in (on i) 6 := by rw [on_in (by omega)]; omega
  have hin' : ai_in (on i) 14 := by rw [on_in (by omega)]; omega
  obtain ⟨-, ⟨p1, p2⟩, -⟩ := hO.2.2 i hi
  have h90 := (hz.2.2 i (by omega)).1
  rw [Nat.zero_add] at h90
  rw [d_M_treads, if_pos hin', if_pos hin, if_pos hin, if_pos hin, on_nn (by omega), hM.2.2.2.2.1, hM.2.2.2.1, hM.2.1, h90, if_neg (fun e => by rw [e] at p1; exact absurd p1 (by decide))]; rfl
def pS (h : Hs) (z : Ss) (b k m : Nat) : Int32 := fo (fun i a => a + (if b.testBit i = true then tp h z i k else 0)) m 0 0
theorem pS_s (h : Hs) (z : Ss) (b k m : Nat) : pS h z b k (m + 1) = pS h z b k m + (if b.testBit m = true then tp h z m k else 0) := by unfold pS; rw [fo_s, Nat.zero_add]
def pR (h : Hs) (z : Ss) (b k : Nat) : Nat → List Int64
  | 0 => []
  | m + 1 => pR h z b k m ++ (if b.testBit m = true then [(tp h z m k).toInt64] else [])
theorem pR_len (h : Hs) (z : Ss) (b k : Nat) : ∀ m, (pR h z b k m).length ≤ m := by
  intro m
  induction m with
  | zero => exact Nat.le_refl _
  | succ m ih =>
    rw [pR, List.length_append]
    by_cases e : b.testBit m = true
    · rw [if_pos e]; simp; omega
    · rw [if_neg e]; simp; omega
def pV : Option Nat → Int32
  | none => -2
  | some k => on k
def pO (h : Hs) (z : Ss) (b : Nat) : Option Nat → Option (List Int64)
  | none => none
  | some k => some (pR h z b k (hm h))
/-- the first k by which they can pay -/
def pF (h : Hs) (z : Ss) (b : Nat) (o : Option Nat) : Prop := match o with
  | none => ∀ k, k ≤ 40 → ¬ pS h z b k (hm h) ≤ on k
  | some k => k ≤ 40 ∧ pS h z b k (hm h) ≤ on k ∧ ∀ j, j < k → ¬ pS h z b j (hm h) ≤ on j
theorem pF_uni {h : Hs} {z : Ss} {b : Nat} {o o' : Option Nat} (a : pF h z b o) (a' : pF h z b o') : o = o' := by
  cases o with
  | none =>
    cases o' with
    | none => rfl
    | some k => exact absurd a'.2.1 (a k a'.1)
  | some k =>
    cases o' with
    | none => exact absurd a.2.1 (a' k a.1)
    | some k' =>
      rcases Nat.lt_trichotomy k k' with q | q | q
      · exact absurd a.2.1 (a'.2.2 k q)
      · rw [q]
      · exact absurd a'.2.1 (a.2.2 k' q)
theorem X_payers {N : Nat} {V V1 : ai_V} {h : Hs} {z : Ss} {rm : Int32} {nw b k : Nat} (hO : HO h) (hC : CH V1 h) (hS : IS N V h z rm) (hz : cS z V1 16) (hn : z.1 = on nw) (hnw : nw < 30000) (hb : b < 64) (hk : k ≤ 40) : ∃ V', d_X_tellPayers (on b) (on k) V1 = some V' ∧ cRow V' (pR h z b k (hm h)) := by
  have h6 := hO.1
  obtain ⟨q1, q2⟩ := row_clear V1
  rw [d_X_tellPayers, q1, bd_some]
  refine loop_n (fun n (_ : Unit) y V => d_X_tellPayers_9 n (on b) (on k) y V) (fun c : ai_V => some c) (fun i _ V' => cRow V' (pR h z b k i) ∧ Fr ([(22, 1)], [23]) V1 V') (fun V' => cRow V' (pR h z b k (hm h))) (hm h) ?_ ?_ (hm h) 0 ai_N () _ (by omega) (N_gt (by omega)) ⟨q2, Fr.si Fr.rf rfl⟩
  · rintro n _ i V2 hi ⟨hr, hF⟩
    have C2 := hC.fr hF rfl
    show ∃ (a' : Unit) (V' : ai_V), d_X_tellPayers_9 (n + 1) (on b) (on k) (on i) V2 = _ ∧ _
    rw [d_X_tellPayers_9, C2.1, if_neg (by rw [on_le (by omega) (by omega)]; omega), pR]
    by_cases e : b.testBit i = true
    · have hlen := pR_len h z b k i
      obtain ⟨V3, e3, r3, F3⟩ := row_add hr (by omega) (tp h z i k).toInt64
      rw [if_neg (fun hn => hn ((bt_on b hb i (by omega)).mpr e)), tpC hO C2 hS (hz.fr hF rfl rfl rfl rfl) hn hnw hi (by omega), bd_some, e3, bd_some, d_X_tellPayers_43, on_s, if_pos e]
      exact ⟨(), V3, rfl, r3, Fr.tr hF F3 rfl⟩
    · rw [if_pos (fun hn => e ((bt_on b hb i (by omega)).mp hn)), d_X_tellPayers_43, on_s, if_neg e, List.append_nil]
      exact ⟨(), V2, rfl, hr, hF⟩
  · rintro n _ V2 ⟨hr, hF⟩
    have C2 := hC.fr hF rfl
    show ∃ c : ai_V, d_X_tellPayers_9 (n + 1) (on b) (on k) (on (hm h)) V2 = _ ∧ _
    rw [d_X_tellPayers_9, C2.1, if_pos (Int32.le_refl _)]
    exact ⟨V2, rfl, hr⟩
theorem X_pays {N : Nat} {V : ai_V} {h : Hs} {f : Rf} {z : Ss} {rm : Int32} {nw b : Nat} (K : KC V h f) (hS : IS N V h z rm) (hn : z.1 = on nw) (hnw : nw < 30000) (hb : b < 2 ^ hm h) : ∃ o V', d_X_pays (on b) V = some (pV o, V') ∧ pF h z b o ∧ cRo V V' (pO h z b o) := by
  have hO := K.1
  have h6 := hO.1
  have h64 := Nat.lt_of_lt_of_le hb (two_le h6)
  have hbb : 0 ≤ on b ∧ on b < on (2 ^ hm h) := ⟨on_ge0 (by omega), by rw [on_lt (by omega) (by have := two_le h6; omega)]; exact hb⟩
  rw [d_X_pays, hasAll_eq hO K.2.1, bd_some, if_pos (by rw [tf_pos hbb]; decide)]
  have := loop_e (fun n (_ : Unit) y V => d_X_pays_15 n (on b) y V) (fun c : Option Nat × ai_V => some (pV c.1, c.2)) (fun k _ V' => V' = V ∧ ∀ j, j < k → ¬ pS h z b j (hm h) ≤ on j) (fun c => pF h z b c.1 ∧ cRo V c.2 (pO h z b c.1)) 41 ?_ ?_ 41 0 ai_N () V (by omega) (N_gt (by omega)) ⟨rfl, fun j hj => absurd hj (by omega)⟩
  · obtain ⟨c, e, q⟩ := this
    exact ⟨c.1, c.2, e, q⟩
  · rintro n _ k V1 hk ⟨rfl, hj⟩
    show (∃ (a' : Unit) (V' : ai_V), d_X_pays_15 (n + 1) (on b) (on k) V1 = _ ∧ _) ∨ (∃ c : Option Nat × ai_V, d_X_pays_15 (n + 1) (on b) (on k) V1 = _ ∧ _)
    rw [d_X_pays_15, if_neg (by rw [show (40 : Int32) = on 40 from rfl, on_lt (by omega) (by omega)]; omega)]
    have inner := loop_p (fun q (a : Int32) y => d_X_pays_26 (d_X_pays_15 n) q (on b) (on k) a y V1) (fun c : Option (Int32 × ai_V) => c) (fun i a => a = pS h z b k i) (fun c => c = (if pS h z b k (hm h) ≤ on k then (d_X_tellPayers (on b) (on k) V1).bind (fun q1 => some (on k, q1)) else d_X_pays_15 n (on b) (on (k + 1)) V1)) (hm h) ?_ ?_ (hm h) 0 ai_N 0 (by omega) (N_gt (by omega)) rfl
    · obtain ⟨c, e, hc⟩ := inner
      have e' : d_X_pays_26 (d_X_pays_15 n) ai_N (on b) (on k) 0 0 V1 = c := e
      rw [e', hc]
      by_cases e2 : pS h z b k (hm h) ≤ on k
      · right
        obtain ⟨V2, e3, c3⟩ := X_payers (V1 := V1) hO K.2.1 hS hS.2.1 hn hnw h64 (show k ≤ 40 by omega)
        rw [if_pos e2, e3, bd_some]
        exact ⟨(some k, V2), rfl, ⟨by omega, e2, hj⟩, c3⟩
      · left
        rw [if_neg e2]
        refine ⟨(), V1, rfl, rfl, fun j hj1 => ?_⟩
        by_cases ej : j = k
        · rw [ej]; exact e2
        · exact hj j (by omega)
    · rintro q a i hi ha
      left
      show ∃ a' : Int32, d_X_pays_26 (d_X_pays_15 n) (q + 1) (on b) (on k) a (on i) V1 = _ ∧ _
      have hs := pS_s h z b k i
      rw [← ha] at hs
      rw [d_X_pays_26, K.2.1.1, if_neg (by rw [on_le (by omega) (by omega)]; omega)]
      by_cases e : b.testBit i = true
      · rw [if_pos e] at hs
        rw [if_pos ((bt0_on b h64 i (by omega)).mpr e), tpC hO K.2.1 hS hS.2.1 hn hnw hi (by omega), bd_some, d_X_pays_59, on_s]
        exact ⟨_, rfl, hs.symm⟩
      · rw [if_neg e] at hs
        rw [if_neg (fun hn => e ((bt0_on b h64 i (by omega)).mp hn)), d_X_pays_59, on_s]
        exact ⟨_, rfl, hs.symm⟩
    · rintro q a ha
      show ∃ c : Option (Int32 × ai_V), d_X_pays_26 (d_X_pays_15 n) (q + 1) (on b) (on k) a (on (hm h)) V1 = _ ∧ _
      rw [d_X_pays_26, K.2.1.1, if_pos (Int32.le_refl _), on_s, ha]
      refine ⟨_, rfl, ?_⟩
      by_cases e2 : pS h z b k (hm h) ≤ on k
      · rw [if_neg (nlt.mpr e2), if_pos e2]
      · rw [if_pos (nle.mp e2), if_neg e2]
  · rintro n _ V1 ⟨rfl, hj⟩
    show ∃ c : Option Nat × ai_V, d_X_pays_15 (n + 1) (on b) (on 41) V1 = _ ∧ _
    rw [d_X_pays_15, if_pos (by decide)]
    exact ⟨(none, V1), rfl, fun k hk => hj k (by omega), ⟨rfl, rfl⟩⟩
theorem M_pays {V : ai_V} {h : Hs} {f : Rf} {z : Ss} {b : Nat} (K : KM V h f) (hz : mS z V 90 0) (hb : b < 2 ^ hm h) : ∃ o V', d_M_pays (on b) V = some (pV o, V') ∧ pF h z b o ∧ mRo V V' (pO h z b o) := by
  have hO := K.1
  have h6 := hO.1
  have h64 := Nat.lt_of_lt_of_le hb (two_le h6)
  have hbb : 0 ≤ on b ∧ on b < on (2 ^ hm h) := ⟨on_ge0 (by omega), by rw [on_lt (by omega) (by have := two_le h6; omega)]; exact hb⟩
  have hM1 := (K.s14 0).2.1
  have z1 : mS z (si V 89 14 0) 90 0 := hz.fr (w := ([(89, 14)], [])) (Fr.si Fr.rf rfl) rfl
  have hpe : ∀ k, (ga (si V 89 14 0) 90 13 + on k) / 12 - ga (si V 89 14 0) 90 13 / 12 = pE z k := fun k => by
    have := z1.1
    rw [Nat.zero_add] at this
    rw [this]; rfl
  rw [d_M_pays, areThose_eq hO hM1, bd_some, if_pos (by rw [tf_pos hbb]; decide)]
  have := loop_e (fun n (_ : Unit) y V => d_M_pays_17 n (on b) y V) (fun c : Option Nat × ai_V => some (pV c.1, c.2)) (fun k _ V' => V' = si V 89 14 0 ∧ ∀ j, j < k → ¬ pS h z b j (hm h) ≤ on j) (fun c => pF h z b c.1 ∧ mRo V c.2 (pO h z b c.1)) 41 ?_ ?_ 41 0 ai_N () (si V 89 14 0) (by omega) (N_gt (by omega)) ⟨rfl, fun j hj => absurd hj (by omega)⟩
  · obtain ⟨c, e, q⟩ := this
    exact ⟨c.1, c.2, e, q⟩
  · rintro n _ k V1 hk ⟨rfl, hj⟩
    show (∃ (a' : Unit) (V' : ai_V), d_M_pays_17 (n + 1) (on b) (on k) (si V 89 14 0) = _ ∧ _) ∨ (∃ c : Option Nat × ai_V, d_M_pays_17 (n + 1) (on b) (on k) (si V 89 14 0) = _ ∧ _)
    rw [d_M_pays_17, if_neg (by rw [show (40 : Int32) = on 40 from rfl, on_lt (by omega) (by omega)]; omega), show ((13 : Int32)).toNatClampNeg = 13 from rfl, hpe]
    have inner := loop_p (fun q (a : Int32) y => d_M_pays_53 (d_M_pays_17 n) q (on b) (on k) (pE z k) a y (si V 89 14 0)) (fun c : Option (Int32 × ai_V) => c) (fun i a => a = pS h z b k i) (fun c => c = (if pS h z b k (hm h) ≤ on k then d_M_pays_110 ai_N (on b) (on k) (pE z k) 0 (si (si V 89 14 0) 89 13 0) else d_M_pays_17 n (on b) (on (k + 1)) (si V 89 14 0))) (hm h) ?_ ?_ (hm h) 0 ai_N 0 (by omega) (N_gt (by omega)) rfl
    · obtain ⟨c, e, hc⟩ := inner
      have e' : d_M_pays_53 (d_M_pays_17 n) ai_N (on b) (on k) (pE z k) 0 0 (si V 89 14 0) = c := e
      rw [e', hc]
      by_cases e2 : pS h z b k (hm h) ≤ on k
      · right
        rw [if_pos e2]
        have := loop_n (fun q (_ : Unit) y V => d_M_pays_110 q (on b) (on k) (pE z k) y V) (fun c : Int32 × ai_V => some c) (fun i _ V' => mRow V' (pR h z b k i) ∧ Fr ([(89, 14), (89, 13)], [97]) V V') (fun c => c.1 = on k ∧ mRow c.2 (pR h z b k (hm h))) (hm h) ?_ ?_ (hm h) 0 ai_N () (si (si V 89 14 0) 89 13 0) (by omega) (N_gt (by omega)) ⟨m_row0 _, Fr.si (Fr.si Fr.rf rfl) rfl⟩
        · obtain ⟨⟨c1, c2⟩, g, q1, q2⟩ := this
          simp only at q1 q2
          subst q1
          exact ⟨(some k, c2), g, ⟨by omega, e2, hj⟩, q2⟩
        · rintro q _ i V2 hi ⟨hr, hF⟩
          have M2 := K.2.1.fr hF rfl
          show ∃ (a' : Unit) (V' : ai_V), d_M_pays_110 (q + 1) (on b) (on k) (pE z k) (on i) V2 = _ ∧ _
          rw [d_M_pays_110, M2.1, if_neg (by rw [on_le (by omega) (by omega)]; omega), mhas_on h64 (by omega), bd_some, pR]
          by_cases e : b.testBit i = true
          · have hlen := pR_len h z b k i
            obtain ⟨V3, e3, r3, F3⟩ := m_tell hr (by omega) (tp h z i k).toInt64
            rw [if_neg (by rw [tf_pos e]; decide), tpM hO M2 (hz.fr hF rfl) hi, bd_some, e3, bd_some, d_M_pays_140, on_s, if_pos e]
            exact ⟨(), V3, rfl, r3, Fr.tr hF F3 rfl⟩
          · rw [if_pos (tf_neg e), d_M_pays_140, on_s, if_neg e, List.append_nil]
            exact ⟨(), V2, rfl, hr, hF⟩
        · rintro q _ V2 ⟨hr, hF⟩
          have M2 := K.2.1.fr hF rfl
          show ∃ c : Int32 × ai_V, d_M_pays_110 (q + 1) (on b) (on k) (pE z k) (on (hm h)) V2 = _ ∧ _
          rw [d_M_pays_110, M2.1, if_pos (Int32.le_refl _)]
          exact ⟨_, rfl, rfl, hr⟩
      · left
        rw [if_neg e2]
        refine ⟨(), _, rfl, rfl, fun j hj1 => ?_⟩
        by_cases ej : j = k
        · rw [ej]; exact e2
        · exact hj j (by omega)
    · rintro q a i hi ha
      left
      show ∃ a' : Int32, d_M_pays_53 (d_M_pays_17 n) (q + 1) (on b) (on k) (pE z k) a (on i) (si V 89 14 0) = _ ∧ _
      have hs := pS_s h z b k i
      rw [← ha] at hs
      rw [d_M_pays_53, hM1.1, if_neg (by rw [on_le (by omega) (by omega)]; omega), mhas_on h64 (by omega), bd_some]
      by_cases e : b.testBit i = true
      · rw [if_pos e] at hs
        rw [if_neg (by rw [tf_pos e]; decide), tpM hO hM1 z1 hi, bd_some, d_M_pays_84, on_s]
        exact ⟨_, rfl, hs.symm⟩
      · rw [if_neg e] at hs
        rw [if_pos (tf_neg e), d_M_pays_84, on_s]
        exact ⟨_, rfl, hs.symm⟩
    · rintro q a ha
      show ∃ c : Option (Int32 × ai_V), d_M_pays_53 (d_M_pays_17 n) (q + 1) (on b) (on k) (pE z k) a (on (hm h)) (si V 89 14 0) = _ ∧ _
      rw [d_M_pays_53, hM1.1, if_pos (Int32.le_refl _), on_s, ha]
      exact ⟨_, rfl, rfl⟩
  · rintro n _ V1 ⟨rfl, hj⟩
    show ∃ c : Option Nat × ai_V, d_M_pays_17 (n + 1) (on b) (on 41) (si V 89 14 0) = _ ∧ _
    rw [d_M_pays_17, if_pos (by decide)]
    exact ⟨(none, _), rfl, fun k hk => hj k (by omega), ⟨rfl, rfl⟩⟩
theorem st_pays {N : Nat} {V : ai_V} (hI : Inv N V) (hN : N < 512) (x : Int32) : Step N V (d_X_pays x) (d_M_pays x) := by
  obtain ⟨h, f, z, rm, nw, kc, km, hS, hn, hb⟩ := hI.k
  have hO := kc.1
  have h6 := hO.1
  by_cases hx : 0 ≤ x ∧ x < on (2 ^ hm h)
  · obtain ⟨b, hb2, rfl⟩ := those_on hO hx
    obtain ⟨o, V1, e1, p1, c1⟩ := X_pays kc hS hn (by omega) hb2
    have F1 : Fr w_X_pays V V1 := fr_X_pays _ _ _ e1
    obtain ⟨o', V2, e2, p2, c2⟩ := M_pays (km.fr F1 rfl) (hS.2.2.1.fr F1 rfl) hb2
    have F2 : Fr w_M_pays V1 V2 := fr_M_pays _ _ _ e2
    obtain rfl := pF_uni p1 p2
    refine ⟨_, V1, V2, e1, e2, hI.qq F1 F2 rfl rfl rfl rfl (fun r hr => ?_) c1 c2 (hI.x.fr2 F1 F2 rfl rfl)⟩
    cases o with
    | none => cases hr
    | some k =>
      obtain rfl := Option.some.inj hr
      have := pR_len h z b k (hm h)
      omega
  · refine ⟨-1, V, si V 89 14 0, ?_, ?_, hI.no 0⟩
    · rw [d_X_pays, hasAll_eq hO kc.2.1, bd_some, if_neg (fun hn => hn (tf_neg hx))]
    · rw [d_M_pays, areThose_eq hO (km.s14 0).2.1, bd_some, if_neg (fun hn => hn (tf_neg hx))]
