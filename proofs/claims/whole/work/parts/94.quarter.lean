/-! ===== quarter ===== -/
theorem pr.lt2 {h : Hs} {x y : Int32} {b : Nat} (hp : pr h x y b) : b < 2 ^ hm h := by
  rcases hp with ⟨-, -, rfl⟩ | ⟨i, hi, -, -, rfl⟩ | ⟨i, j, hi, hj, -, -, -, rfl⟩
  · exact pw_pos _
  · exact pw_lt2 hi
  · exact Nat.or_lt_two_pow (pw_lt2 hi) (pw_lt2 hj)
theorem pr.tn {h : Hs} {x y : Int32} {b : Nat} (hO : HO h) (hp : pr h x y b) : 0 ≤ (tn h b).toInt ∧ (tn h b).toInt ≤ 9 := by
  rcases hp with ⟨-, -, rfl⟩ | ⟨i, hi, -, -, rfl⟩ | ⟨i, j, hi, hj, -, -, -, rfl⟩
  · rw [tn_0]; decide
  · rw [tn_one hO hi]
    have := (hO.2.2 i hi).2.1
    omega
  · rw [tn_two hO hi hj, ai_min_ti]
    have := (hO.2.2 i hi).2.1
    have := (hO.2.2 j hj).2.1
    omega
theorem pr.lif {h : Hs} {x y : Int32} {b : Nat} (hO : HO h) (f : Rf) (z : Ss) (hp : pr h x y b) : 0 ≤ (qlif h f b z).toInt ∧ (qlif h f b z).toInt ≤ 198 := by
  rcases hp with ⟨-, -, rfl⟩ | ⟨i, hi, -, -, rfl⟩ | ⟨i, j, hi, hj, hn, -, -, rfl⟩
  · rw [qlif, LA_0]; decide
  · have := qlif_1 hO f hi z; omega
  · exact qlif_2 hO f hi hj hn z
/-- bounds of a state in a house of m, at most K quarters old -/
def SK (K m : Nat) (z : Ss) : Prop := (0 ≤ z.1.toInt ∧ z.1.toInt ≤ K) ∧ (0 ≤ z.2.1.toInt ∧ z.2.1.toInt ≤ 999) ∧ ∀ k, k < 6 → (-(63 * z.1.toInt) ≤ (z.2.2.1 k).toInt ∧ (z.2.2.1 k).toInt ≤ 63 * z.1.toInt) ∧ (m ≤ k → z.2.2.1 k = 0 ∧ z.2.2.2 k = 0)
theorem SK.of {N m : Nat} {z : Ss} (h : SO N m z) : SK (48 * N) m z := ⟨⟨h.1.1, by have := h.1.2; omega⟩, h.2⟩
theorem SK.to {N K m : Nat} {z : Ss} (h : SK K m z) (hK : K ≤ 48 * N) : SO N m z := ⟨⟨h.1.1, by have := h.1.2; omega⟩, h.2⟩
theorem q12_0 {n : Nat} (hn : n < 2147483648) : (q12 (on n) = 0) = (n % 12 = 0) := by rw [q12_on hn, on_z (by omega)]
theorem qz_SK {K : Nat} {h : Hs} {f : Rf} {rm x y : Int32} {b : Nat} {z : Ss} (hO : HO h) (hK : K < 10000000) (hz : SK K (hm h) z) (hr : 1 ≤ rm.toInt ∧ rm.toInt ≤ 999) (hl : z.2.1.toInt ≤ rm.toInt) (hp : pr h x y b) :
    SK (K + 1) (hm h) (qz h f (ordL (hst h) (hm h)) rm b z) ∧ (qz h f (ordL (hst h) (hm h)) rm b z).2.1.toInt ≤ rm.toInt := by
  obtain ⟨o1, o2, o3⟩ := hz
  have h6 := hO.1
  have hlif := hp.lif hO f z
  have e0 : (0 : Int32).toInt = 0 := rfl
  have n1 : (z.1 + 1).toInt = z.1.toInt + 1 := by
    have e1 : (1 : Int32).toInt = 1 := rfl
    rw [ti_add (by omega) (by omega)]; omega
  have s1 : (z.2.1 + qlif h f b z).toInt = z.2.1.toInt + (qlif h f b z).toInt := ti_add (by omega) (by omega)
  have s2 : (z.2.1 + qlif h f b z - rm).toInt = z.2.1.toInt + (qlif h f b z).toInt - rm.toInt := by rw [ti_sub (by omega) (by omega), s1]
  have s3 : (qovr h f rm b z).toInt = max 0 (z.2.1.toInt + (qlif h f b z).toInt - rm.toInt) := by rw [qovr, ai_max_ti, s2, e0]
  have s4 : (qlif h f b z - qovr h f rm b z).toInt = (qlif h f b z).toInt - (qovr h f rm b z).toInt := ti_sub (by omega) (by omega)
  have s5 : (z.2.1 + (qlif h f b z - qovr h f rm b z)).toInt = z.2.1.toInt + ((qlif h f b z).toInt - (qovr h f rm b z).toInt) := by rw [ti_add (by omega) (by omega), s4]
  have hlv := tk_level hO (q := z.1.toNatClampNeg % 12) (ordL (hst h) (hm h)) (z.2.1 + (qlif h f b z - qovr h f rm b z), 0) (fun j hj => ordL_mem hj) (by show 0 ≤ (z.2.1 + (qlif h f b z - qovr h f rm b z)).toInt; omega)
  have hlv2 : 0 ≤ (qT h f (ordL (hst h) (hm h)) rm b z).1.toInt ∧ (qT h f (ordL (hst h) (hm h)) rm b z).1.toInt ≤ (z.2.1 + (qlif h f b z - qovr h f rm b z)).toInt := hlv
  refine ⟨⟨⟨by show 0 ≤ (z.1 + 1).toInt; omega, by show (z.1 + 1).toInt ≤ _; omega⟩, ⟨hlv2.1, by show (qT h f (ordL (hst h) (hm h)) rm b z).1.toInt ≤ 999; omega⟩, fun k hk => ⟨?_, fun hmk => ⟨?_, ?_⟩⟩⟩, by show (qT h f (ordL (hst h) (hm h)) rm b z).1.toInt ≤ rm.toInt; omega⟩
  · show -(63 * (z.1 + 1).toInt) ≤ (z.2.2.1 k - (if b.testBit k = true then tn h b else 0) + (if q12 (z.1 + 1) = 0 ∧ k < hm h then hdu h * (hst h k + 1) else 0)).toInt ∧ (z.2.2.1 k - (if b.testBit k = true then tn h b else 0) + (if q12 (z.1 + 1) = 0 ∧ k < hm h then hdu h * (hst h k + 1) else 0)).toInt ≤ 63 * (z.1 + 1).toInt
    have htn := hp.tn hO
    have t1 : 0 ≤ (if b.testBit k = true then tn h b else 0 : Int32).toInt ∧ (if b.testBit k = true then tn h b else 0 : Int32).toInt ≤ 9 := by
      by_cases e : b.testBit k = true
      · rw [if_pos e]; exact htn
      · rw [if_neg e]; decide
    have t2 : 0 ≤ (if q12 (z.1 + 1) = 0 ∧ k < hm h then hdu h * (hst h k + 1) else 0 : Int32).toInt ∧ (if q12 (z.1 + 1) = 0 ∧ k < hm h then hdu h * (hst h k + 1) else 0 : Int32).toInt ≤ 54 := by
      by_cases e : q12 (z.1 + 1) = 0 ∧ k < hm h
      · rw [if_pos e]
        have d1 := hO.2.1
        have d2 := (hO.2.2 k e.2).1
        have e1 : (1 : Int32).toInt = 1 := rfl
        have d3 : (hst h k + 1).toInt = (hst h k).toInt + 1 := by rw [ti_add (by omega) (by omega)]; omega
        have b1 : 0 ≤ (hdu h).toInt * (hst h k + 1).toInt := Int.mul_nonneg d1.1 (by omega)
        have b2 : (hdu h).toInt * (hst h k + 1).toInt ≤ 9 * 6 := Int.mul_le_mul d1.2 (by omega) (by omega) (by omega)
        rw [ti_mul (by omega) (by omega)]; omega
      · rw [if_neg e]; decide
    have dz := (o3 k hk).1
    generalize (if b.testBit k = true then tn h b else 0 : Int32) = u at t1 ⊢
    generalize (if q12 (z.1 + 1) = 0 ∧ k < hm h then hdu h * (hst h k + 1) else 0 : Int32) = w at t2 ⊢
    have a1 : (z.2.2.1 k - u).toInt = (z.2.2.1 k).toInt - u.toInt := ti_sub (by omega) (by omega)
    have a2 : (z.2.2.1 k - u + w).toInt = (z.2.2.1 k - u).toInt + w.toInt := ti_add (by omega) (by omega)
    omega
  · show z.2.2.1 k - (if b.testBit k = true then tn h b else 0) + (if q12 (z.1 + 1) = 0 ∧ k < hm h then hdu h * (hst h k + 1) else 0) = 0
    have hbk : b.testBit k = false := by
      refine Nat.testBit_lt_two_pow (Nat.lt_of_lt_of_le hp.lt2 (Nat.pow_le_pow_right (by decide) hmk))
    rw [((o3 k hk).2 hmk).1, if_neg (by rw [hbk]; decide), if_neg (by omega)]; rfl
  · show z.2.2.2 k + tf ((qT h f (ordL (hst h) (hm h)) rm b z).2.testBit k = true) = 0
    have hbk : ¬ (qT h f (ordL (hst h) (hm h)) rm b z).2.testBit k = true := by
      intro hc
      have := (tk_bits h (z.1.toNatClampNeg % 12) (ordL (hst h) (hm h)) (z.2.1 + (qlif h f b z - qovr h f rm b z)) (fun j hj => by have := ordL_mem hj; omega)).2 k hk hc
      have := ordL_mem this
      omega
    rw [((o3 k hk).2 hmk).2, tf_neg hbk]; rfl
theorem rem_90 {V : ai_V} {z : Ss} {p : Nat} (hp : p ≤ 12) (h35 : gi V 89 35 = on p) (hz : mS z V 90 0) :
    ∃ V', d_M_remember V = some V' ∧ gi V' 89 35 = on (min (p + 1) 12) ∧ mS z V' 100 (14 * (if p < 12 then p else 11)) ∧ (∀ e, e < (if p < 12 then p else 11) → ∀ y, mS y V 100 (14 * (if p < 12 then e else e + 1)) → mS y V' 100 (14 * e)) ∧ Fr ([(89, 35)], [100]) V V' := by
  have TL : ∀ (W : ai_V) (k : Nat), k < 12 → gi W 89 35 = on k → mS z W 90 0 → ∃ V', d_M_remember_49 W = some V' ∧ gi V' 89 35 = on (k + 1) ∧ mS z V' 100 (14 * k) ∧ (∀ j, j < 14 * k ∨ 14 * k + 14 ≤ j → ga V' 100 j = ga W 100 j) ∧ Fr ([(89, 35)], [100]) W V' := by
    intro W k hk g35 hw
    obtain ⟨V1, e1, l1, l2, F⟩ := lay_90_100 (V := W) (k := 14 * k) (by omega)
    refine ⟨si V1 89 35 (on (k + 1)), ?_, by rw [gi_si, if_pos ⟨rfl, rfl⟩], ?_, fun j hj => by rw [ga_si]; exact l2 j hj, Fr.si (Fr.tr Fr.rf F rfl) rfl⟩
    · rw [d_M_remember_49, g35, show (14 : Int32) = on 14 from rfl, on_mul, e1, bd_some, F.gi 89 35 rfl, g35, on_s]
    · exact mS_of hw (fun j hj => by rw [ga_si]; exact l1 j hj)
  by_cases e12 : p < 12
  · obtain ⟨V1, e1, g1, m1, k1, F1⟩ := TL V p e12 h35 hz
    refine ⟨V1, ?_, by rw [g1, show min (p + 1) 12 = p + 1 by omega], by rw [if_pos e12]; exact m1, ?_, F1⟩
    · rw [d_M_remember, if_pos (by rw [h35, show (12 : Int32) = on 12 from rfl, on_inj (by omega) (by omega)]; omega)]; exact e1
    · rw [if_pos e12]
      intro e he y hy
      rw [if_pos e12] at hy
      exact mS_at hy (fun j hj => k1 _ (by omega))
  · have hp12 : p = 12 := by omega
    subst hp12
    have := loop_n (fun n (_ : Unit) y V => d_M_remember_11 n y V) (fun c : ai_V => some c) (fun k _ V' => (∀ j, ga V' 100 j = if j < k then ga V 100 (j + 14) else ga V 100 j) ∧ Fr ([], [100]) V V') (fun V' => gi V' 89 35 = on 12 ∧ mS z V' 100 (14 * 11) ∧ (∀ j, j < 154 → ga V' 100 j = ga V 100 (j + 14)) ∧ Fr ([(89, 35)], [100]) V V') 154 ?_ ?_ 154 0 ai_N () V (by omega) (N_gt (by omega)) ⟨fun j => by rw [if_neg (by omega)], Fr.rf⟩
    · obtain ⟨V1, e1, g1, m1, k1, F1⟩ := this
      refine ⟨V1, ?_, g1, m1, ?_, F1⟩
      · rw [d_M_remember, if_neg (fun hn => hn (by rw [h35]; rfl))]; exact e1
      · intro e he y hy
        rw [if_neg (by omega)] at he hy
        exact mS_at hy (fun j hj => by rw [k1 _ (by omega), show 14 * e + j + 14 = 14 * (e + 1) + j by omega])
    · rintro n a k V1 hk ⟨a1, hF⟩
      show ∃ (_ : Unit) (V' : ai_V), d_M_remember_11 (n + 1) (on k) V1 = _ ∧ _
      rw [d_M_remember_11, show (154 : Int32) = on 154 from rfl, show (14 : Int32) = on 14 from rfl, if_neg (by rw [on_le (by omega) (by omega)]; omega), on_add, if_pos (by rw [on_in (by omega)]; omega), if_pos (by rw [on_in (by omega)]; omega), on_nn (by omega), on_nn (by omega), on_s]
      refine ⟨(), _, rfl, fun j => ?_, Fr.sa hF rfl⟩
      rw [ga_sa]
      by_cases e : j = k
      · rw [if_pos ⟨rfl, e⟩, if_pos (by omega), a1, if_neg (by omega), e]
      · rw [if_neg (by omega), a1]
        by_cases e2 : j < k
        · rw [if_pos e2, if_pos (by omega)]
        · rw [if_neg e2, if_neg (by omega)]
    · rintro n a V1 ⟨a1, hF⟩
      show ∃ c : ai_V, d_M_remember_11 (n + 1) (on 154) V1 = _ ∧ _
      have g11 : gi V1 89 35 - (1 : Int32) = on 11 := by rw [hF.gi 89 35 rfl, h35]; rfl
      obtain ⟨V2, e2, g2, m2, k2, F2⟩ := TL (si V1 89 35 (on 11)) 11 (by omega) (by rw [gi_si, if_pos ⟨rfl, rfl⟩]) (hz.fr (w := ([(89, 35)], [100])) (Fr.si (Fr.tr Fr.rf hF rfl) rfl) rfl)
      rw [d_M_remember_11, if_pos (by decide), g11]
      refine ⟨V2, e2, g2, m2, fun j hj => ?_, Fr.tr (Fr.si (Fr.tr Fr.rf hF rfl) rfl) F2 rfl⟩
      rw [k2 j (by omega), ga_si, a1, if_pos hj]
theorem rem_101 {V : ai_V} {z : Ss} {p : Nat} (hp : p ≤ 12) (h35 : gi V 89 35 = on p) (hz : mS z V 101 0) :
    ∃ V', d_M_remember_89_101 V = some V' ∧ gi V' 89 35 = on (min (p + 1) 12) ∧ mS z V' 100 (14 * (if p < 12 then p else 11)) ∧ (∀ e, e < (if p < 12 then p else 11) → ∀ y, mS y V 100 (14 * (if p < 12 then e else e + 1)) → mS y V' 100 (14 * e)) ∧ Fr ([(89, 35)], [100]) V V' := by
  have TL : ∀ (W : ai_V) (k : Nat), k < 12 → gi W 89 35 = on k → mS z W 101 0 → ∃ V', d_M_remember_89_101_49 W = some V' ∧ gi V' 89 35 = on (k + 1) ∧ mS z V' 100 (14 * k) ∧ (∀ j, j < 14 * k ∨ 14 * k + 14 ≤ j → ga V' 100 j = ga W 100 j) ∧ Fr ([(89, 35)], [100]) W V' := by
    intro W k hk g35 hw
    obtain ⟨V1, e1, l1, l2, F⟩ := lay_101_100 (V := W) (k := 14 * k) (by omega)
    refine ⟨si V1 89 35 (on (k + 1)), ?_, by rw [gi_si, if_pos ⟨rfl, rfl⟩], ?_, fun j hj => by rw [ga_si]; exact l2 j hj, Fr.si (Fr.tr Fr.rf F rfl) rfl⟩
    · rw [d_M_remember_89_101_49, g35, show (14 : Int32) = on 14 from rfl, on_mul, e1, bd_some, F.gi 89 35 rfl, g35, on_s]
    · exact mS_of hw (fun j hj => by rw [ga_si]; exact l1 j hj)
  by_cases e12 : p < 12
  · obtain ⟨V1, e1, g1, m1, k1, F1⟩ := TL V p e12 h35 hz
    refine ⟨V1, ?_, by rw [g1, show min (p + 1) 12 = p + 1 by omega], by rw [if_pos e12]; exact m1, ?_, F1⟩
    · rw [d_M_remember_89_101, if_pos (by rw [h35, show (12 : Int32) = on 12 from rfl, on_inj (by omega) (by omega)]; omega)]; exact e1
    · rw [if_pos e12]
      intro e he y hy
      rw [if_pos e12] at hy
      exact mS_at hy (fun j hj => k1 _ (by omega))
  · have hp12 : p = 12 := by omega
    subst hp12
    have := loop_n (fun n (_ : Unit) y V => d_M_remember_89_101_11 n y V) (fun c : ai_V => some c) (fun k _ V' => (∀ j, ga V' 100 j = if j < k then ga V 100 (j + 14) else ga V 100 j) ∧ Fr ([], [100]) V V') (fun V' => gi V' 89 35 = on 12 ∧ mS z V' 100 (14 * 11) ∧ (∀ j, j < 154 → ga V' 100 j = ga V 100 (j + 14)) ∧ Fr ([(89, 35)], [100]) V V') 154 ?_ ?_ 154 0 ai_N () V (by omega) (N_gt (by omega)) ⟨fun j => by rw [if_neg (by omega)], Fr.rf⟩
    · obtain ⟨V1, e1, g1, m1, k1, F1⟩ := this
      refine ⟨V1, ?_, g1, m1, ?_, F1⟩
      · rw [d_M_remember_89_101, if_neg (fun hn => hn (by rw [h35]; rfl))]; exact e1
      · intro e he y hy
        rw [if_neg (by omega)] at he hy
        exact mS_at hy (fun j hj => by rw [k1 _ (by omega), show 14 * e + j + 14 = 14 * (e + 1) + j by omega])
    · rintro n a k V1 hk ⟨a1, hF⟩
      show ∃ (_ : Unit) (V' : ai_V), d_M_remember_89_101_11 (n + 1) (on k) V1 = _ ∧ _
      rw [d_M_remember_89_101_11, show (154 : Int32) = on 154 from rfl, show (14 : Int32) = on 14 from rfl, if_neg (by rw [on_le (by omega) (by omega)]; omega), on_add, if_pos (by rw [on_in (by omega)]; omega), if_pos (by rw [on_in (by omega)]; omega), on_nn (by omega), on_nn (by omega), on_s]
      refine ⟨(), _, rfl, fun j => ?_, Fr.sa hF rfl⟩
      rw [ga_sa]
      by_cases e : j = k
      · rw [if_pos ⟨rfl, e⟩, if_pos (by omega), a1, if_neg (by omega), e]
      · rw [if_neg (by omega), a1]
        by_cases e2 : j < k
        · rw [if_pos e2, if_pos (by omega)]
        · rw [if_neg e2, if_neg (by omega)]
    · rintro n a V1 ⟨a1, hF⟩
      show ∃ c : ai_V, d_M_remember_89_101_11 (n + 1) (on 154) V1 = _ ∧ _
      have g11 : gi V1 89 35 - (1 : Int32) = on 11 := by rw [hF.gi 89 35 rfl, h35]; rfl
      obtain ⟨V2, e2, g2, m2, k2, F2⟩ := TL (si V1 89 35 (on 11)) 11 (by omega) (by rw [gi_si, if_pos ⟨rfl, rfl⟩]) (hz.fr (w := ([(89, 35)], [100])) (Fr.si (Fr.tr Fr.rf hF rfl) rfl) rfl)
      rw [d_M_remember_89_101_11, if_pos (by decide), g11]
      refine ⟨V2, e2, g2, m2, fun j hj => ?_, Fr.tr (Fr.si (Fr.tr Fr.rf hF rfl) rfl) F2 rfl⟩
      rw [k2 j (by omega), ga_si, a1, if_pos hj]
theorem IP.push {N : Nat} {V V' : ai_V} {h : Hs} {z : Ss} {p x : Nat} (hp : p ≤ 12) (hx : x < 12) (p7 : ∀ e, e < p → ∃ z, SO N (hm h) z ∧ cS z V (26 + 3 * ((x + 12 - p + e) % 12)) ∧ mS z V 100 (14 * e)) (hz : SO N (hm h) z)
    (g1 : gi V' 24 1 = on (min (p + 1) 12)) (g2 : gi V' 24 2 = on ((x + 1) % 12)) (g3 : gi V' 89 35 = on (min (p + 1) 12)) (g4 : ∀ j, j < 12 → gi V' (26 + 3 * j) 2 = 999)
    (c1 : cS z V' (26 + 3 * x)) (c2 : ∀ j, j < 12 → j ≠ x → ∀ y, cS y V (26 + 3 * j) → cS y V' (26 + 3 * j)) (m1 : mS z V' 100 (14 * (if p < 12 then p else 11))) (m2 : ∀ e, e < (if p < 12 then p else 11) → ∀ y, mS y V 100 (14 * (if p < 12 then e else e + 1)) → mS y V' 100 (14 * e)) : IP (N + 1) V' h := by
  refine ⟨min (p + 1) 12, (x + 1) % 12, by omega, Nat.mod_lt _ (by decide), g1, g2, g3, g4, fun e he => ?_⟩
  by_cases e12 : p < 12
  · rw [if_pos e12] at m1 m2
    rw [show min (p + 1) 12 = p + 1 by omega] at he ⊢
    by_cases ep : e = p
    · subst ep
      rw [show ((x + 1) % 12 + 12 - (e + 1) + e) % 12 = x by omega]
      exact ⟨z, hz.mono (by omega), c1, m1⟩
    · obtain ⟨y, y1, y2, y3⟩ := p7 e (by omega)
      rw [show ((x + 1) % 12 + 12 - (p + 1) + e) % 12 = (x + 12 - p + e) % 12 by omega]
      have := m2 e (by omega) y (by rw [if_pos e12]; exact y3)
      exact ⟨y, y1.mono (by omega), c2 _ (Nat.mod_lt _ (by decide)) (by omega) y y2, this⟩
  · rw [if_neg e12] at m1 m2
    have hp12 : p = 12 := by omega
    subst hp12
    rw [show min (12 + 1) 12 = 12 from rfl] at he ⊢
    by_cases ep : e = 11
    · subst ep
      rw [show ((x + 1) % 12 + 12 - 12 + 11) % 12 = x by omega]
      exact ⟨z, hz.mono (by omega), c1, m1⟩
    · obtain ⟨y, y1, y2, y3⟩ := p7 (e + 1) (by omega)
      rw [show ((x + 1) % 12 + 12 - 12 + e) % 12 = (x + 12 - 12 + (e + 1)) % 12 by omega]
      have := m2 e (by omega) y (by rw [if_neg (by omega)]; exact y3)
      exact ⟨y, y1.mono (by omega), c2 _ (Nat.mod_lt _ (by decide)) (by omega) y y2, this⟩
theorem sv_16 : ∀ j, j < 12 → fw_f (26 + 3 * j) 2 wSv.1 = false := by decide +kernel
def wQu : Fw := ([(15, 2), (15, 3), (15, 4), (15, 5), (16, 0), (16, 1), (22, 1), (89, 13), (89, 14), (89, 15), (89, 16), (89, 17), (89, 18), (89, 19), (89, 23), (89, 24), (89, 25), (89, 26), (89, 27), (89, 28), (89, 29), (89, 32), (89, 33)], [12, 13, 17, 18, 23, 90, 97])
def wQx : Fw := ([(15, 2), (15, 3), (15, 4), (15, 5), (16, 0), (16, 1), (22, 1)], [12, 13, 17, 18, 23])
def wQm : Fw := ([(89, 13), (89, 14), (89, 15), (89, 16), (89, 17), (89, 18), (89, 19), (89, 23), (89, 24), (89, 25), (89, 26), (89, 27), (89, 28), (89, 29), (89, 32), (89, 33)], [90, 97])
theorem wQ_f : ∀ j, j < 12 → fw_f (26 + 3 * j) 0 wQx.1 = false ∧ fw_f (26 + 3 * j) 1 wQx.1 = false ∧ fw_f (26 + 3 * j) 2 wQx.1 = false ∧ fw_a (26 + 3 * j + 1) wQx.2 = false ∧ fw_a (26 + 3 * j + 2) wQx.2 = false := by decide +kernel
theorem wQ_g : ∀ j, j < 12 → fw_f (26 + 3 * j) 0 ((89, 35) :: wQm.1) = false ∧ fw_f (26 + 3 * j) 1 ((89, 35) :: wQm.1) = false ∧ fw_f (26 + 3 * j) 2 ((89, 35) :: wQm.1) = false ∧ fw_a (26 + 3 * j + 1) (100 :: wQm.2) = false ∧ fw_a (26 + 3 * j + 2) (100 :: wQm.2) = false := by decide +kernel
theorem M_qu {V : ai_V} {h : Hs} {f : Rf} {z : Ss} {rm x y : Int32} {b nw : Nat} (K : KM V h f) (hp : pr h x y b) (hz : mS z V 90 0) (h8 : gi V 89 8 = rm) (hn : z.1 = on nw) (hnw : nw < 2000000) {W : ai_V} (hW : d_M_remember V = some W) (FW : Fr ([(89, 35)], [100]) V W) :
    ∃ V', d_M_quarter_50 x y 1 V = some ((qz h f (lo h) rm b z).2.1, V') ∧ mS (qz h f (lo h) rm b z) V' 90 0 ∧ mRow V' [(qlif h f b z).toInt64, (qovr h f rm b z).toInt64, (on (qT h f (lo h) rm b z).2).toInt64] ∧ Fr wQm W V' := by
  have KW : KM W h f := K.fr FW rfl
  have h6 := K.1.1
  obtain ⟨V1, e1, z1, g1, g2, g3⟩ := goQ_90 (rm := rm) K.1 KW.2.1 KW.2.2.1 KW.2.2.2 hp.lt2 (hz.fr FW rfl) hn (by omega)
  have F1 := fr_M_goQuarter _ _ _ _ e1
  obtain ⟨V2, e2, r2, F2⟩ := m_tell (m_row0 V1) (by decide) (qlif h f b z).toInt64
  obtain ⟨V3, e3, r3, F3⟩ := m_tell r2 (by show 1 < 16; omega) (qovr h f rm b z).toInt64
  obtain ⟨V4, e4, r4, F4⟩ := m_tell r3 (by show 2 < 16; omega) (on (qT h f (lo h) rm b z).2).toInt64
  have FA : Fr wQm W V4 := Fr.tr (Fr.tr (Fr.tr (Fr.si (Fr.tr Fr.rf F1 rfl) rfl) F2 rfl) F3 rfl) F4 rfl
  have Fz : Fr ([(89, 13)], [97]) V1 V4 := Fr.tr (Fr.tr (Fr.tr (Fr.si Fr.rf rfl) F2 rfl) F3 rfl) F4 rfl
  have z4 : mS (qz h f (lo h) rm b z) V4 90 0 := z1.fr Fz rfl
  have z4b : ga V4 90 12 = (qz h f (lo h) rm b z).2.1 := z4.2.1
  refine ⟨V4, ?_, z4, r4, FA⟩
  have E : ∀ s0 s1, s1 ||| s0 = on b → d_M_quarter_95 s0 s1 W = some ((qz h f (lo h) rm b z).2.1, V4) := by
    intro s0 s1 hs
    rw [d_M_quarter_95, hs, FW.gi 89 8 rfl, h8, e1, bd_some, gi_si, if_neg (by decide), g1, e2, bd_some, F2.gi 89 33 rfl, gi_si, if_neg (by decide), g2, e3, bd_some, F3.gi 89 29 rfl, F2.gi 89 29 rfl, gi_si, if_neg (by decide), g3, e4, bd_some, show ((12 : Int32)).toNatClampNeg = 12 from rfl, z4b]
  rw [d_M_quarter_50, if_pos (by decide), hW, bd_some]
  rcases hp with ⟨rfl, rfl, rfl⟩ | ⟨i, hi, rfl, rfl, rfl⟩ | ⟨i, j, hi, hj, hne, rfl, rfl, rfl⟩
  · rw [if_neg (fun hn => hn rfl), d_M_quarter_83, if_neg (fun hn => hn rfl)]
    exact E _ _ rfl
  · rw [if_pos (on_ne_m1 (by omega)), d_M_quarter_83, if_neg (fun hn => hn rfl), sh_on (by omega)]
    exact E _ _ (by rw [Int32.or_zero])
  · rw [if_pos (on_ne_m1 (by omega)), d_M_quarter_83, if_pos (on_ne_m1 (by omega)), sh_on (show i < 7 by omega)]
    exact E _ _ (or_on _ (pw_lt i (by omega)) j (by omega))
theorem M_can {V : ai_V} {h : Hs} {f : Rf} (K : KM (si V 89 14 0) h f) (x y : Int32) : (canT h x y → d_M_quarter x y V = d_M_quarter_50 x y 1 (si V 89 14 0)) ∧ (¬ canT h x y → d_M_quarter x y V = d_M_quarter_50 x y 0 (si V 89 14 0)) := by
  rw [d_M_quarter]
  unfold canT
  by_cases e : x = -1
  · rw [if_pos e, if_neg (fun hn => hn e)]
    by_cases e2 : y = -1
    · rw [if_neg (fun hn => hn e2)]; exact ⟨fun _ => rfl, fun hn => absurd e2 hn⟩
    · rw [if_pos e2]; exact ⟨fun hn => absurd hn e2, fun _ => rfl⟩
  · rw [if_neg e, if_pos e, isOne_eq K.1 K.2.1, bd_some]
    by_cases h1 : 0 ≤ x ∧ x < on (hm h)
    · rw [if_neg (by rw [tf_pos h1]; decide)]
      by_cases h3 : y = -1
      · rw [if_pos h3]; exact ⟨fun _ => rfl, fun hn => absurd ⟨h1, fun hn => e (hn.trans h3), Or.inl h3⟩ hn⟩
      · rw [if_neg h3, areTwo_eq K.1 K.2.1, bd_some]
        by_cases h4 : (0 ≤ y ∧ y < on (hm h)) ∧ x ≠ y
        · rw [if_neg (by rw [tf_pos ⟨h1, h4⟩]; decide)]; exact ⟨fun _ => rfl, fun hn => absurd ⟨h1, h4.2, Or.inr h4.1⟩ hn⟩
        · rw [if_pos (tf_neg (fun hc => h4 hc.2))]; exact ⟨fun hc => absurd ⟨hc.2.2.resolve_left h3, hc.2.1⟩ h4, fun _ => rfl⟩
    · rw [if_pos (tf_neg h1)]; exact ⟨fun hc => absurd hc.1 h1, fun _ => rfl⟩
def wQt : Fw := (wSv.1 ++ wQx.1 ++ (89, 35) :: wQm.1, wSv.2 ++ wQx.2 ++ 100 :: wQm.2)
theorem st_quarter {N : Nat} {V : ai_V} (hI : Inv N V) (hN : N < 512) (x y : Int32) : Step N V (d_X_quarter x y) (d_M_quarter x y) := by
  have hI0 := hI
  obtain ⟨h, f, z, rm, h1, h2, h3, h4, h5, h6, h7, h8, h9, h10⟩ := hI
  obtain ⟨kc, km, nw, hn, hb⟩ : KC V h f ∧ KM V h f ∧ ∃ nw, z.1 = on nw ∧ nw ≤ 48 * N := by
    obtain ⟨a1, a2, a3, a4, -⟩ := h2
    refine ⟨⟨a1, a2, h3.1, a4⟩, ⟨a1, a3, h3.2, storey_eq a1 h10.1 h10.2.1⟩, z.1.toNatClampNeg, (on_of (by rw [ti_le]; exact h4.1.1.1)).symm, ?_⟩
    have := h4.1.1.2
    have := ti_nn z.1
    omega
  obtain ⟨s1, s2, s3, s4, s5, s6, s7, s8⟩ := h4
  rcases canTread_eq kc.1 kc.2.1 x y with ⟨ex, hc⟩ | ⟨ex, hc⟩
  · obtain ⟨b, hp⟩ := canT_pr kc.1 hc
    obtain ⟨p, xx, p1, p2, p3, p4, p5, p6, p7⟩ := h6
    obtain ⟨V1, e1, g1, g2, c1, c2, F1⟩ := save_eq p1 p2 p3 p4 s2 p6 s1.2.1.2
    have kc1 : KC V1 h f := kc.fr F1 rfl
    obtain ⟨V2, e2, z2, q2, q3, q4, -⟩ := pass_16 (rm := rm) kc1.1 kc1.2.1 kc1.2.2.1 kc1.2.2.2 hp (s2.fr F1 rfl rfl rfl rfl) (by rw [F1.gi 16 2 rfl]; exact s4) hn (by omega)
    have F2 := fr_Wheel_pass _ _ _ _ e2
    obtain ⟨V3, e3, r3, F3⟩ := tell3 (qlif h f b z).toInt64 (qovr h f rm b z).toInt64 (on (qT h f (lo h) rm b z).2).toInt64 V2
    have F13 : Fr wQx V1 V3 := Fr.tr (Fr.tr Fr.rf F2 rfl) F3 rfl
    have z3 : cS (qz h f (lo h) rm b z) V3 16 := z2.fr F3 rfl rfl rfl rfl
    have F03 : Fr (wSv.1 ++ wQx.1 ++ [(89, 14)], wSv.2 ++ wQx.2) V (si V3 89 14 0) := Fr.si (Fr.tr (Fr.tr Fr.rf F1 rfl) F13 rfl) rfl
    have km3 : KM (si V3 89 14 0) h f := km.fr F03 rfl
    obtain ⟨V4, e4, g4, m4, m5, F4⟩ := rem_90 (z := z) p1 (by rw [F03.gi 89 35 rfl]; exact p5) (s3.fr F03 rfl)
    obtain ⟨V5, e5, z5, r5, F5⟩ := M_qu (rm := rm) km3 hp (s3.fr F03 rfl) (by rw [F03.gi 89 8 rfl]; exact s5) hn (by omega) e4 F4
    have F35 : Fr ((89, 35) :: wQm.1, 100 :: wQm.2) V3 V5 := Fr.tr (Fr.tr (Fr.si Fr.rf rfl) F4 rfl) F5 rfl
    have F : Fr wQt V V5 := Fr.tr (Fr.tr Fr.rf F03 rfl) (show Fr ((89, 35) :: wQm.1, 100 :: wQm.2) (si V3 89 14 0) V5 from Fr.tr (Fr.tr Fr.rf F4 rfl) F5 rfl) rfl
    have sk := qz_SK (f := f) kc.1 (by omega) (SK.of s1) ⟨s6, s7⟩ s8 hp
    have cj : ∀ j, j < 12 → ∀ y, cS y V1 (26 + 3 * j) → cS y V5 (26 + 3 * j) := by
      intro j hj y hy
      have t := wQ_f j hj
      have u := wQ_g j hj
      exact (hy.fr F13 t.1 t.2.1 t.2.2.2.1 t.2.2.2.2).fr F35 u.1 u.2.1 u.2.2.2.1 u.2.2.2.2
    refine ⟨(qz h f (lo h) rm b z).2.1, V3, V5, ?_, ?_, h, f, qz h f (lo h) rm b z, rm, h1.sm (Sm.of F rfl), h2.sm (Sm.of F rfl), h3.sm (Sm.of F rfl), ⟨sk.1.to (by omega), z3.fr F35 rfl rfl rfl rfl, z5, by rw [F.gi 16 2 rfl]; exact s4, by rw [F.gi 89 8 rfl]; exact s5, s6, s7, sk.2⟩, ?_, ?_, h7.sm (Sm.of F rfl) (by omega), h8.sm (Sm.of F rfl), h9.sm (Sm.of F rfl), ?_⟩
    · rw [d_X_quarter, ex, bd_some, if_pos (by decide), e1, bd_some, e2, bd_some, q2, q3, q4, e3, bd_some, z3.2.1]
    · rw [(M_can km3 x y).1 hc, e5]
    · have c : cRow V5 _ := r3.fr F35 rfl
      refine ⟨3, by omega, c.1, r5.1, fun i hi => ?_⟩
      rw [c.2 i hi, r5.2 i hi]
    · refine IP.push p1 p2 p7 s1 ?_ ?_ ?_ ?_ (cj _ p2 _ c1) (fun j hj hne y hy => cj j hj y (c2 j hj hne y hy)) ?_ ?_
      · rw [F35.gi 24 1 rfl, F13.gi 24 1 rfl]; exact g1
      · rw [F35.gi 24 2 rfl, F13.gi 24 2 rfl]; exact g2
      · rw [F5.gi 89 35 rfl]; exact g4
      · intro j hj
        rw [F35.gi _ _ (wQ_g j hj).2.2.1, F13.gi _ _ (wQ_f j hj).2.2.1, F1.gi _ _ (sv_16 j hj)]; exact p6 j hj
      · exact m4.fr F5 rfl
      · intro e he y hy
        exact (m5 e he y (hy.fr F03 rfl)).fr F5 rfl
    · exact h10.fr2 (w1 := (wSv.1 ++ wQx.1, wSv.2 ++ wQx.2)) (V1 := V3) (Fr.tr (Fr.tr Fr.rf F1 rfl) F13 rfl) F35 rfl rfl
  · refine ⟨-2, V, si V 89 14 0, ?_, ?_, hI0.no 0⟩
    · rw [d_X_quarter, ex, bd_some, if_neg (fun hn => hn rfl)]
    · rw [(M_can (km.s14 0) x y).2 hc, d_M_quarter_50, if_neg (fun hn => hn rfl)]
