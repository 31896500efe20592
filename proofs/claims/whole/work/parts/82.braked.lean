/-! ===== braked ===== -/
theorem firstOf_at {V : ai_V} {h : Hs} (hO : HO h) (hC : CH V h) {b i : Nat} (hb : b < 64) (hi : i < hm h) (hbit : b.testBit i = true) (hlow : ∀ k, k < i → ¬ b.testBit k = true) : d_House_firstOf (on b) V = some (on i) := by
  have h6 := hO.1
  rw [d_House_firstOf]
  have := loop_p (fun n (_ : Unit) x => d_House_firstOf_2 n (on b) x V) (fun c : Int32 => some c) (fun k _ => k ≤ i) (fun c => c = on i) (hm h) ?_ ?_ (hm h) 0 ai_N () (by omega) (N_gt (by omega)) (by omega)
  · obtain ⟨c, e, rfl⟩ := this
    exact e
  · rintro n _ k hk hki
    show (∃ a' : Unit, d_House_firstOf_2 (n + 1) (on b) (on k) V = _ ∧ _) ∨ (∃ c, d_House_firstOf_2 (n + 1) (on b) (on k) V = _ ∧ _)
    rw [d_House_firstOf_2, hC.1, if_neg (by rw [on_le (by omega) (by omega)]; omega)]
    by_cases e : k = i
    · right
      subst e
      rw [if_neg (fun hn => hn ((bt_on b hb k (by omega)).mpr hbit))]
      exact ⟨_, rfl, rfl⟩
    · left
      rw [if_pos (fun hn => hlow k (by omega) ((bt_on b hb k (by omega)).mp hn)), on_s]
      exact ⟨(), rfl, by omega⟩
  · rintro n _ hki
    omega
theorem firstOf_no {V : ai_V} {h : Hs} (hO : HO h) (hC : CH V h) : d_House_firstOf (on 0) V = some (-1) := by
  have h6 := hO.1
  rw [d_House_firstOf]
  have := loop_p (fun n (_ : Unit) x => d_House_firstOf_2 n (on 0) x V) (fun c : Int32 => some c) (fun k _ => True) (fun c => c = -1) (hm h) ?_ ?_ (hm h) 0 ai_N () (by omega) (N_gt (by omega)) trivial
  · obtain ⟨c, e, rfl⟩ := this
    exact e
  · rintro n _ k hk _
    left
    show ∃ a' : Unit, d_House_firstOf_2 (n + 1) (on 0) (on k) V = _ ∧ _
    rw [d_House_firstOf_2, hC.1, if_neg (by rw [on_le (by omega) (by omega)]; omega), if_pos (fun hn => by
      have := (bt_on 0 (by omega) k (by omega)).mp hn
      simp at this), on_s]
    exact ⟨(), rfl, trivial⟩
  · rintro n _ _
    show ∃ c, d_House_firstOf_2 (n + 1) (on 0) (on (hm h)) V = _ ∧ _
    rw [d_House_firstOf_2, hC.1, if_pos (Int32.le_refl _)]
    exact ⟨_, rfl, rfl⟩
theorem pop1 : ∀ b, b < 64 → popc b = 1 → ∃ i, i < 6 ∧ b = 2 ^ i := by decide +kernel
theorem pop2 : ∀ b, b < 64 → popc b = 2 → ∃ i, i < 6 ∧ ∃ j, j < 6 ∧ i < j ∧ b = 2 ^ i ||| 2 ^ j := by decide +kernel
theorem xr1 : ∀ i, i < 6 → on (2 ^ i) ^^^ ((1 : Int32) <<< (on i &&& 31)) = on 0 := by decide +kernel
theorem xr2 : ∀ i, i < 6 → ∀ j, j < 6 → i < j → on (2 ^ i ||| 2 ^ j) ^^^ ((1 : Int32) <<< (on i &&& 31)) = on (2 ^ j) := by decide +kernel
/-- the one or two of a set -/
theorem both {V : ai_V} {h : Hs} (hO : HO h) (hC : CH V h) {b : Nat} (hb : b < 2 ^ hm h) (hp : popc b = 1 ∨ popc b = 2) : ∃ x y, d_House_firstOf (on b) V = some x ∧ d_House_firstOf (on b ^^^ ((1 : Int32) <<< (x &&& 31))) V = some y ∧ pr h x y b := by
  have h6 := hO.1
  have h64 := Nat.lt_of_lt_of_le hb (two_le h6)
  rcases hp with hp | hp
  · obtain ⟨i, hi, rfl⟩ := pop1 b h64 hp
    have him : i < hm h := tb_m hb ((tb_one i hi i hi).mpr rfl)
    refine ⟨on i, -1, ?_, ?_, pr_one him⟩
    · exact firstOf_at hO hC h64 him ((tb_one i hi i hi).mpr rfl) (fun k hk hn => by have := (tb_one i hi k (by omega)).mp hn; omega)
    · rw [xr1 i hi]; exact firstOf_no hO hC
  · obtain ⟨i, hi, j, hj, hij, rfl⟩ := pop2 b h64 hp
    have him : i < hm h := tb_m hb ((tb_two i hi j hj i hi).mpr (Or.inl rfl))
    have hjm : j < hm h := tb_m hb ((tb_two i hi j hj j hj).mpr (Or.inr rfl))
    refine ⟨on i, on j, ?_, ?_, pr_two him hjm (by omega)⟩
    · exact firstOf_at hO hC h64 him ((tb_two i hi j hj i hi).mpr (Or.inl rfl)) (fun k hk hn => by rcases (tb_two i hi j hj k (by omega)).mp hn with q | q <;> omega)
    · rw [xr2 i hi j hj hij]
      exact firstOf_at hO hC (pw_lt j hj) hjm ((tb_one j hj j hj).mpr rfl) (fun k hk hn => by have := (tb_one j hj k (by omega)).mp hn; omega)
theorem ai_min_comm (x y : Int32) : ai_min x y = ai_min y x := by
  rw [ti_eq, ai_min_ti, ai_min_ti]; omega
abbrev Bs : Type := Nat × Int32 × Int32
def bkL (h : Hs) (f : Rf) (z : Ss) (rm : Int32) (b s : Nat) : Int32 := ai_min (LA h f b 0 (q12 z.1) (on s)) rm
def bkS (h : Hs) (f : Rf) (z : Ss) (rm v : Int32) (b s : Nat) (a : Bs) : Bs := if (on s &&& (on b ^^^ (-1 : Int32))) = 0 ∧ bkL h f z rm b s = v then (a.1 + 1, if a.1 = 0 then on s else a.2.1, a.2.2 &&& on s) else a
def bkP (h : Hs) (f : Rf) (z : Ss) (rm v : Int32) (b k : Nat) : Bs := fo (fun s a => bkS h f z rm v b s a) k 0 (0, -1, on b)
theorem bkP_s (h : Hs) (f : Rf) (z : Ss) (rm v : Int32) (b k : Nat) : bkP h f z rm v b (k + 1) = bkS h f z rm v b k (bkP h f z rm v b k) := by
  unfold bkP; rw [fo_s, Nat.zero_add]
def bkR (a : Bs) : List Int64 := [a.2.1.toInt64, (if a.1 = 0 then 0 else a.2.2.toInt64)]
theorem bkS_le (h : Hs) (f : Rf) (z : Ss) (rm v : Int32) (b s : Nat) (a : Bs) : (bkS h f z rm v b s a).1 ≤ a.1 + 1 := by
  unfold bkS
  by_cases e : (on s &&& (on b ^^^ (-1 : Int32))) = 0 ∧ bkL h f z rm b s = v
  · rw [if_pos e]; exact Nat.le_refl _
  · rw [if_neg e]; omega
theorem X_lvl {V : ai_V} {h : Hs} {f : Rf} {z : Ss} {rm x y : Int32} {b : Nat} (K : KC V h f) (hz : cS z V 16) (hr : gi V 16 2 = rm) (hp : pr h x y b) (s : Nat) : ∃ V', d_X_levelWithout (on s) x y V = some (bkL h f z rm b s, V') ∧ Fr w_Wheel_pails V V' := by
  obtain ⟨V1, e1⟩ := pails_1 K.1 K.2.1 K.2.2.1 hp 0 (q12 z.1) (on s)
  have F1 : Fr w_Wheel_pails V V1 := fr_Wheel_pails _ _ _ _ _ _ _ e1
  have K1 := K.fr F1 rfl
  obtain ⟨V2, e2⟩ := pails_2 K1.1 K1.2.1 K1.2.2.1 hp 0 (q12 z.1) (on s)
  have F2 : Fr w_Wheel_pails V V2 := Fr.tr F1 (fr_Wheel_pails _ _ _ _ _ _ _ e2) rfl
  refine ⟨V2, ?_, F2⟩
  have hq : d_State_quarterNow V = some (q12 z.1) := by rw [d_State_quarterNow, hz.1]; rfl
  rw [d_X_levelWithout, hq, bd_some, e1, bd_some]
  show ((d_Wheel_pails y x 0 (q12 z.1) (on s) V1).bind _) = _
  rw [e2, bd_some, F2.gi 16 2 rfl, hr, lfo_sum K.1 f hp]; rfl
theorem X_braked {V : ai_V} {h : Hs} {f : Rf} {z : Ss} {rm v : Int32} {b : Nat} (K : KC V h f) (hz : cS z V 16) (hr : gi V 16 2 = rm) (hb : b < 2 ^ hm h) (hp : popc b = 1 ∨ popc b = 2) (hv : 0 ≤ v ∧ v ≤ 999) :
    ∃ V', d_X_braked (on b) v V = some (on (bkP h f z rm v b (b + 1)).1, V') ∧ cRow V' (bkR (bkP h f z rm v b (b + 1))) := by
  have h6 := K.1.1
  have h64 := Nat.lt_of_lt_of_le hb (two_le h6)
  have hbb : 0 ≤ on b ∧ on b < on (2 ^ hm h) := ⟨on_ge0 (by omega), by rw [on_lt (by omega) (by have := two_le h6; omega)]; exact hb⟩
  obtain ⟨x, y, fx, fy, hpr⟩ := both K.1 K.2.1 hb hp
  rw [d_X_braked, hasAll_eq K.1 K.2.1, bd_some, if_neg (by rw [tf_pos hbb]; decide), bitCount_on b h64, bd_some, d_X_braked_19, if_neg (by rw [one_on, on_lt (by have := popc_le b h64; omega) (by omega)]; omega), if_neg (by rw [show (2 : Int32) = on 2 from rfl, on_lt (by omega) (by have := popc_le b h64; omega)]; omega), if_neg (nlt.mpr hv.1), if_pos hv.2, fx, bd_some, fy, bd_some]
  have := loop_n (fun n (a : Bs) u V => d_X_braked_80 n (on b) v x y (on a.1) a.2.1 a.2.2 u V) (fun c : Int32 × ai_V => some c)
    (fun s a V' => a = bkP h f z rm v b s ∧ a.1 ≤ s ∧ Fr w_Wheel_pails V V') (fun c => c.1 = on (bkP h f z rm v b (b + 1)).1 ∧ cRow c.2 (bkR (bkP h f z rm v b (b + 1)))) (b + 1) ?_ ?_ (b + 1) 0 ai_N (0, -1, on b) V (by omega) (N_gt (by omega)) ⟨rfl, Nat.le_refl _, Fr.rf⟩
  · obtain ⟨⟨c1, c2⟩, e, q1, q2⟩ := this
    simp only at q1 q2
    subst q1
    exact ⟨c2, e, q2⟩
  · rintro n a s V1 hs ⟨ha, ha1, hF⟩
    show ∃ (a' : Bs) (V' : ai_V), d_X_braked_80 (n + 1) (on b) v x y (on a.1) a.2.1 a.2.2 (on s) V1 = _ ∧ _
    have hps := bkP_s h f z rm v b s
    rw [← ha] at hps
    have hle := bkS_le h f z rm v b s a
    have keep : ∀ V', Fr w_Wheel_pails V V' → ¬ ((on s &&& (on b ^^^ (-1 : Int32))) = 0 ∧ bkL h f z rm b s = v) → ∃ (a' : Bs) (V'' : ai_V), d_X_braked_133 (d_X_braked_80 n) (on b) v x y (on a.1) a.2.1 a.2.2 (on s) V' = d_X_braked_80 n (on b) v x y (on a'.1) a'.2.1 a'.2.2 (on (s + 1)) V'' ∧ a' = bkP h f z rm v b (s + 1) ∧ a'.1 ≤ s + 1 ∧ Fr w_Wheel_pails V V'' := by
      intro V' F' hno
      rw [bkS, if_neg hno] at hps
      rw [d_X_braked_133, on_s]
      exact ⟨a, V', rfl, hps.symm, by omega, F'⟩
    rw [d_X_braked_80, if_neg (by rw [on_lt (by omega) (by omega)]; omega)]
    by_cases e1 : (on s &&& (on b ^^^ (-1 : Int32))) = 0
    · obtain ⟨V2, e2, F2⟩ := X_lvl (rm := rm) (K.fr hF rfl) (hz.fr hF rfl rfl rfl rfl) (by rw [hF.gi 16 2 rfl]; exact hr) hpr s
      have F2' : Fr w_Wheel_pails V V2 := Fr.tr hF F2 rfl
      rw [if_neg (fun hn => hn e1), e2, bd_some]
      by_cases e3 : bkL h f z rm b s = v
      · rw [bkS, if_pos ⟨e1, e3⟩] at hps
        rw [if_neg (fun hn => hn e3)]
        by_cases e4 : a.1 = 0
        · rw [if_pos e4] at hps
          rw [if_neg (by rw [e4]; exact fun hn => hn rfl), d_X_braked_121, d_X_braked_133, on_s, on_s]
          exact ⟨_, V2, rfl, hps.symm, by show a.1 + 1 ≤ s + 1; omega, F2'⟩
        · rw [if_neg e4] at hps
          rw [if_pos (by rw [on_z (by omega)]; exact e4), d_X_braked_121, d_X_braked_133, on_s, on_s]
          exact ⟨_, V2, rfl, hps.symm, by show a.1 + 1 ≤ s + 1; omega, F2'⟩
      · rw [if_pos e3]
        exact keep V2 F2' (fun hc => e3 hc.2)
    · rw [if_pos e1]
      exact keep V1 hF (fun hc => e1 hc.1)
  · rintro n a V1 ⟨ha, ha1, hF⟩
    show ∃ c : Int32 × ai_V, d_X_braked_80 (n + 1) (on b) v x y (on a.1) a.2.1 a.2.2 (on (b + 1)) V1 = _ ∧ _
    rw [d_X_braked_80, if_pos (by rw [on_lt (by omega) (by omega)]; omega), ← ha]
    by_cases e4 : a.1 = 0
    · obtain ⟨V2, e2, c2, -⟩ := tell2 a.2.1.toInt64 (Int64.ofNat 0) V1
      rw [if_neg (by rw [e4]; exact fun hn => hn rfl), d_X_braked_158, e2, bd_some]
      exact ⟨_, rfl, rfl, by rw [bkR, if_pos e4]; exact c2⟩
    · obtain ⟨V2, e2, c2, -⟩ := tell2 a.2.1.toInt64 a.2.2.toInt64 V1
      rw [if_pos (by rw [on_z (by omega)]; exact e4), d_X_braked_158, e2, bd_some]
      exact ⟨_, rfl, rfl, by rw [bkR, if_neg e4]; exact c2⟩
theorem M_braked {V : ai_V} {h : Hs} {f : Rf} {z : Ss} {rm v : Int32} {b : Nat} (K : KM V h f) (hz : mS z V 90 0) (hr : gi V 89 8 = rm) (hb : b < 2 ^ hm h) (hp : popc b = 1 ∨ popc b = 2) (hv : 0 ≤ v ∧ v ≤ 999) :
    ∃ V', d_M_braked (on b) v V = some (on (bkP h f z rm v b (b + 1)).1, V') ∧ mRow V' (bkR (bkP h f z rm v b (b + 1))) := by
  have h6 := K.1.1
  have h64 := Nat.lt_of_lt_of_le hb (two_le h6)
  have hbb : 0 ≤ on b ∧ on b < on (2 ^ hm h) := ⟨on_ge0 (by omega), by rw [on_lt (by omega) (by have := two_le h6; omega)]; exact hb⟩
  have hpp : (1 : Int32) ≤ on (popc b) ∧ on (popc b) ≤ 2 := by
    have := popc_le b h64
    rw [one_on, show (2 : Int32) = on 2 from rfl, on_le (by omega) (by omega), on_le (by omega) (by omega)]; omega
  rw [d_M_braked, areThose_eq K.1 (K.s14 0).2.1, bd_some, if_neg (by rw [tf_pos hbb]; decide), bitCount_on b h64, bd_some, in_eq, bd_some, if_neg (by rw [tf_pos hpp]; decide), in_eq, bd_some, if_pos (by rw [tf_pos hv]; decide)]
  have := loop_n (fun n (a : Bs) u V => d_M_braked_49 n (on b) v (on a.1) a.2.1 a.2.2 u V) (fun c : Int32 × ai_V => some c)
    (fun s a V' => a = bkP h f z rm v b s ∧ a.1 ≤ s ∧ Fr wM V V') (fun c => c.1 = on (bkP h f z rm v b (b + 1)).1 ∧ mRow c.2 (bkR (bkP h f z rm v b (b + 1)))) (b + 1) ?_ ?_ (b + 1) 0 ai_N (0, -1, on b) (si V 89 14 0) (by omega) (N_gt (by omega)) ⟨rfl, Nat.le_refl _, Fr.si Fr.rf rfl⟩
  · obtain ⟨⟨c1, c2⟩, e, q1, q2⟩ := this
    simp only at q1 q2
    subst q1
    exact ⟨c2, e, q2⟩
  · rintro n a s V1 hs ⟨ha, ha1, hF⟩
    show ∃ (a' : Bs) (V' : ai_V), d_M_braked_49 (n + 1) (on b) v (on a.1) a.2.1 a.2.2 (on s) V1 = _ ∧ _
    have hps := bkP_s h f z rm v b s
    rw [← ha] at hps
    have hle := bkS_le h f z rm v b s a
    have keep : ∀ V', Fr wM V V' → ¬ ((on s &&& (on b ^^^ (-1 : Int32))) = 0 ∧ bkL h f z rm b s = v) → ∃ (a' : Bs) (V'' : ai_V), d_M_braked_157 (d_M_braked_49 n) (on b) v (on a.1) a.2.1 a.2.2 (on s) V' = d_M_braked_49 n (on b) v (on a'.1) a'.2.1 a'.2.2 (on (s + 1)) V'' ∧ a' = bkP h f z rm v b (s + 1) ∧ a'.1 ≤ s + 1 ∧ Fr wM V V'' := by
      intro V' F' hno
      rw [bkS, if_neg hno] at hps
      rw [d_M_braked_157, on_s]
      exact ⟨a, V', rfl, hps.symm, by omega, F'⟩
    rw [d_M_braked_49, if_neg (by rw [on_lt (by omega) (by omega)]; omega)]
    by_cases e1 : (on s &&& (on b ^^^ (-1 : Int32))) = 0
    · rw [if_pos e1]
      have inner := loop_n (fun k (u : Int32) x V => d_M_braked_73 (d_M_braked_49 n) k (on b) v (on a.1) a.2.1 a.2.2 (on s) u x V) (fun c : Bs × ai_V => d_M_braked_49 n (on b) v (on c.1.1) c.1.2.1 c.1.2.2 (on (s + 1)) c.2)
        (fun i u V' => u = fo (fun i a => a + (if b.testBit i = true then lf h f i b 0 (q12 z.1) (on s) else 0)) i 0 0 ∧ Fr wM V V')
        (fun c => c.1 = bkP h f z rm v b (s + 1) ∧ c.1.1 ≤ s + 1 ∧ Fr wM V c.2) (hm h) ?_ ?_ (hm h) 0 ai_N 0 V1 (by omega) (N_gt (by omega)) ⟨rfl, hF⟩
      · obtain ⟨c, e, q⟩ := inner
        exact ⟨c.1, c.2, e, q⟩
      · rintro k u i V2 hi ⟨hu, F2⟩
        have K2 := K.fr F2 rfl
        show ∃ (u' : Int32) (V' : ai_V), d_M_braked_73 (d_M_braked_49 n) (k + 1) (on b) v (on a.1) a.2.1 a.2.2 (on s) u (on i) V2 = _ ∧ _
        rw [d_M_braked_73, K2.2.1.1, if_neg (by rw [on_le (by omega) (by omega)]; omega), mhas_on h64 (by omega), bd_some]
        by_cases e2 : b.testBit i = true
        · obtain ⟨V3, e3⟩ := liftOf_eq K2.1 K2.2.1 K2.2.2.1 hi h64 0 z.1 (on s)
          have F3 := fr_M_liftOf _ _ _ _ _ _ _ e3
          have hz13 : ga V2 90 13 = z.1 := (hz.fr F2 rfl).1
          rw [if_neg (by rw [tf_pos e2]; decide), show ((13 : Int32)).toNatClampNeg = 13 from rfl, hz13, e3, bd_some, d_M_braked_114, on_s]
          refine ⟨_, V3, rfl, ?_, Fr.tr F2 F3 rfl⟩
          rw [fo_s, Nat.zero_add, ← hu, if_pos e2]
        · rw [if_pos (tf_neg e2), d_M_braked_114, on_s]
          refine ⟨_, V2, rfl, ?_, F2⟩
          rw [fo_s, Nat.zero_add, ← hu, if_neg e2]
      · rintro k u V2 ⟨hu, F2⟩
        have K2 := K.fr F2 rfl
        have hu' : u = LA h f b 0 (q12 z.1) (on s) := hu
        show ∃ c : Bs × ai_V, d_M_braked_73 (d_M_braked_49 n) (k + 1) (on b) v (on a.1) a.2.1 a.2.2 (on s) u (on (hm h)) V2 = _ ∧ _
        have hl : ai_min rm u = bkL h f z rm b s := by rw [hu', ai_min_comm]; rfl
        rw [d_M_braked_73, K2.2.1.1, if_pos (Int32.le_refl _), F2.gi 89 8 rfl, hr, hl]
        by_cases e3 : bkL h f z rm b s = v
        · rw [bkS, if_pos ⟨e1, e3⟩] at hps
          rw [if_pos e3]
          by_cases e4 : a.1 = 0
          · rw [if_pos e4] at hps
            rw [if_neg (by rw [e4]; exact fun hn => hn rfl), d_M_braked_147, d_M_braked_157, on_s, on_s]
            exact ⟨(_, V2), rfl, hps.symm, by show a.1 + 1 ≤ s + 1; omega, F2⟩
          · rw [if_neg e4] at hps
            rw [if_pos (by rw [on_z (by omega)]; exact e4), d_M_braked_147, d_M_braked_157, on_s, on_s]
            exact ⟨(_, V2), rfl, hps.symm, by show a.1 + 1 ≤ s + 1; omega, F2⟩
        · rw [if_neg e3]
          obtain ⟨a', V'', q1, q2, q3, q4⟩ := keep V2 F2 (fun hc => e3 hc.2)
          exact ⟨(a', V''), q1, q2, q3, q4⟩
    · rw [if_neg e1]
      exact keep V1 hF (fun hc => e1 hc.1)
  · rintro n a V1 ⟨ha, ha1, hF⟩
    show ∃ c : Int32 × ai_V, d_M_braked_49 (n + 1) (on b) v (on a.1) a.2.1 a.2.2 (on (b + 1)) V1 = _ ∧ _
    obtain ⟨V2, e2, c2, -⟩ := m_tell (m_row0 V1) (by simp) a.2.1.toInt64
    rw [d_M_braked_49, if_pos (by rw [on_lt (by omega) (by omega)]; omega), ← ha, e2, bd_some]
    by_cases e4 : a.1 = 0
    · obtain ⟨V3, e3, c3, -⟩ := m_tell c2 (by simp) (Int64.ofNat 0)
      rw [if_neg (by rw [e4]; exact fun hn => hn rfl), d_M_braked_187, e3, bd_some]
      exact ⟨_, rfl, rfl, by rw [bkR, if_pos e4]; exact c3⟩
    · obtain ⟨V3, e3, c3, -⟩ := m_tell c2 (by simp) a.2.2.toInt64
      rw [if_pos (by rw [on_z (by omega)]; exact e4), d_M_braked_187, e3, bd_some]
      exact ⟨_, rfl, rfl, by rw [bkR, if_neg e4]; exact c3⟩
theorem st_braked {N : Nat} {V : ai_V} (hI : Inv N V) (hN : N < 512) (x v : Int32) : Step N V (d_X_braked x v) (d_M_braked x v) := by
  obtain ⟨h, f, z, rm, nw, kc, km, hS, hn, hb⟩ := hI.k
  have hO := kc.1
  have h6 := hO.1
  by_cases hx : 0 ≤ x ∧ x < on (2 ^ hm h)
  · obtain ⟨b, hb2, rfl⟩ := those_on hO hx
    have h64 := Nat.lt_of_lt_of_le hb2 (two_le h6)
    have hpl := popc_le b h64
    by_cases hp : popc b = 1 ∨ popc b = 2
    · by_cases hv : 0 ≤ v ∧ v ≤ 999
      · obtain ⟨V1, e1, c1⟩ := X_braked (rm := rm) kc hS.2.1 hS.2.2.2.1 hb2 hp hv
        have F1 : Fr w_X_braked V V1 := fr_X_braked _ _ _ _ e1
        obtain ⟨V2, e2, c2⟩ := M_braked (rm := rm) (km.fr F1 rfl) (hS.2.2.1.fr F1 rfl) (by rw [F1.gi 89 8 rfl]; exact hS.2.2.2.2.1) hb2 hp hv
        have F2 : Fr w_M_braked V1 V2 := fr_M_braked _ _ _ _ e2
        exact ⟨_, V1, V2, e1, e2, hI.qq F1 F2 rfl rfl rfl rfl (o := some _) (fun r hr => by obtain rfl := Option.some.inj hr; simp [bkR]) c1 c2 (hI.x.fr2 F1 F2 rfl rfl)⟩
      · refine ⟨-1, V, si V 89 14 0, ?_, ?_, hI.no 0⟩
        · rw [d_X_braked, hasAll_eq hO kc.2.1, bd_some, if_neg (by rw [tf_pos hx]; decide), bitCount_on b h64, bd_some, d_X_braked_19, if_neg (by rw [one_on, on_lt (by omega) (by omega)]; omega), if_neg (by rw [show (2 : Int32) = on 2 from rfl, on_lt (by omega) (by omega)]; omega)]
          by_cases e : v < 0
          · rw [if_pos e]
          · rw [if_neg e, if_neg (fun e2 => hv ⟨nlt.mp e, e2⟩)]
        · rw [d_M_braked, areThose_eq hO (km.s14 0).2.1, bd_some, if_neg (by rw [tf_pos hx]; decide), bitCount_on b h64, bd_some, in_eq, bd_some, if_neg (by
            rw [tf_pos (by rw [one_on, show (2 : Int32) = on 2 from rfl, on_le (by omega) (by omega), on_le (by omega) (by omega)]; omega)]; decide), in_eq, bd_some, if_neg (fun hn => hn (tf_neg hv))]
    · refine ⟨-1, V, si V 89 14 0, ?_, ?_, hI.no 0⟩
      · rw [d_X_braked, hasAll_eq hO kc.2.1, bd_some, if_neg (by rw [tf_pos hx]; decide), bitCount_on b h64, bd_some, d_X_braked_19]
        by_cases e : popc b < 1
        · rw [if_pos (by rw [one_on, on_lt (by omega) (by omega)]; exact e)]
        · rw [if_neg (by rw [one_on, on_lt (by omega) (by omega)]; exact e), if_pos (by rw [show (2 : Int32) = on 2 from rfl, on_lt (by omega) (by omega)]; omega)]
      · rw [d_M_braked, areThose_eq hO (km.s14 0).2.1, bd_some, if_neg (by rw [tf_pos hx]; decide), bitCount_on b h64, bd_some, in_eq, bd_some, if_pos (tf_neg (by rw [one_on, show (2 : Int32) = on 2 from rfl, on_le (by omega) (by omega), on_le (by omega) (by omega)]; omega))]
  · refine ⟨-1, V, si V 89 14 0, ?_, ?_, hI.no 0⟩
    · rw [d_X_braked, hasAll_eq hO kc.2.1, bd_some, if_pos (tf_neg hx), d_X_braked_19, if_pos (by decide)]
    · rw [d_M_braked, areThose_eq hO (km.s14 0).2.1, bd_some, if_pos (tf_neg hx)]
