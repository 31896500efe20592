/-! ===== numbers: treads, thirst, shares, fairdue, ahead ===== -/
theorem t6_lt {x y : Int64} : x < y ↔ x.toInt < y.toInt := Int64.lt_iff_toInt_lt
theorem t6_le {x y : Int64} : x ≤ y ↔ x.toInt ≤ y.toInt := Int64.le_iff_toInt_le
theorem t6_eq {x y : Int64} : x = y ↔ x.toInt = y.toInt := Int64.toInt_inj.symm
theorem t6_add {x y : Int64} (h : -9223372036854775808 ≤ x.toInt + y.toInt) (h' : x.toInt + y.toInt < 9223372036854775808) : (x + y).toInt = x.toInt + y.toInt := by
  rw [Int64.toInt_add]
  exact Int.bmod_eq_of_le (by simpa using h) (by simpa using h')
theorem t6_sub {x y : Int64} (h : -9223372036854775808 ≤ x.toInt - y.toInt) (h' : x.toInt - y.toInt < 9223372036854775808) : (x - y).toInt = x.toInt - y.toInt := by
  rw [Int64.toInt_sub]
  exact Int.bmod_eq_of_le (by simpa using h) (by simpa using h')
theorem t6_mul {x y : Int64} (h : -9223372036854775808 ≤ x.toInt * y.toInt) (h' : x.toInt * y.toInt < 9223372036854775808) : (x * y).toInt = x.toInt * y.toInt := by
  rw [Int64.toInt_mul]
  exact Int.bmod_eq_of_le (by simpa using h) (by simpa using h')
theorem t6_div {x y : Int64} (hx : 0 ≤ x.toInt) (hy : 0 < y.toInt) : (x / y).toInt = x.toInt / y.toInt := by
  rw [Int64.toInt_div_of_ne_right _ _ (by
    intro e
    rw [e] at hy
    exact absurd hy (by decide)), Int.tdiv_eq_ediv_of_nonneg hx]
theorem ti_div {x y : Int32} (hx : 0 ≤ x.toInt) (hy : 0 < y.toInt) : (x / y).toInt = x.toInt / y.toInt := by
  rw [Int32.toInt_div_of_ne_right _ _ (by
    intro e
    rw [e] at hy
    exact absurd hy (by decide)), Int.tdiv_eq_ediv_of_nonneg hx]
theorem t6_of (x : Int32) : x.toInt64.toInt = x.toInt := Int32.toInt_toInt64 x
theorem t6_32 {x : Int64} (h : -2147483648 ≤ x.toInt) (h' : x.toInt < 2147483648) : x.toInt32.toInt = x.toInt := by
  rw [Int64.toInt_toInt32]
  exact Int.bmod_eq_of_le (by simpa using h) (by simpa using h')
theorem cmp_le (x : Int64) : (lg_cmp x (Int64.ofNat 0) ≤ 0) ↔ x.toInt ≤ 0 := by
  have e0 : (Int64.ofNat 0).toInt = 0 := rfl
  unfold lg_cmp
  by_cases a : x > Int64.ofNat 0
  · rw [if_pos a]
    have : (Int64.ofNat 0).toInt < x.toInt := t6_lt.mp a
    exact ⟨fun h => absurd h (by decide), fun h => by omega⟩
  · rw [if_neg a]
    have n1 : ¬ (Int64.ofNat 0).toInt < x.toInt := fun h => a (t6_lt.mpr h)
    by_cases b : x = Int64.ofNat 0
    · rw [if_pos b]
      exact ⟨fun _ => by omega, fun _ => by decide⟩
    · rw [if_neg b]
      exact ⟨fun _ => by omega, fun _ => by decide⟩
theorem cmp_lt (x : Int64) : (0 < lg_cmp x (Int64.ofNat 0)) ↔ 0 < x.toInt := by
  have := cmp_le x
  constructor
  · intro h
    have h1 : ¬ lg_cmp x (Int64.ofNat 0) ≤ 0 := nle.mpr h
    have h2 : ¬ x.toInt ≤ 0 := fun h3 => h1 (this.mpr h3)
    omega
  · intro h
    apply nle.mp
    intro h1
    have := this.mp h1
    omega
/-- begun ones too -/
def td (o p : Int) : Int := if o ≤ 0 then 0 else (o + p - 1) / p
theorem td_rng {o p : Int} (h : 1 ≤ p) : 0 ≤ td o p ∧ td o p ≤ max o 0 := by
  unfold td
  by_cases e : o ≤ 0
  · rw [if_pos e]; omega
  · rw [if_neg e]
    refine ⟨Int.ediv_nonneg (by omega) (by omega), ?_⟩
    have h1 : (o + p - 1) / p ≤ o := by
      apply Int.le_of_lt_add_one
      apply Int.ediv_lt_of_lt_mul (by omega)
      have h2 : 1 * (o + 1) ≤ p * (o + 1) := Int.mul_le_mul_of_nonneg_right h (by omega)
      have h3 : (o + 1) * p = p * (o + 1) := Int.mul_comm _ _
      have h4 : p * (o + 1) = p * o + p := by rw [Int.mul_add, Int.mul_one]
      have h5 : 1 * o ≤ p * o := Int.mul_le_mul_of_nonneg_right h (by omega)
      omega
    omega
theorem qUp {V : ai_V} {a b : Int64} (hb : 0 < b.toInt) (hb' : b.toInt < 4611686018427387904) (ha : a.toInt < 4611686018427387904) : ∃ q, d_House_quotientUp a b V = some q ∧ q.toInt = td a.toInt b.toInt := by
  unfold td
  rw [d_House_quotientUp]
  by_cases e : a.toInt ≤ 0
  · rw [if_pos ((cmp_le a).mpr e), if_pos e]; exact ⟨_, rfl, rfl⟩
  · have h1 : (a + b).toInt = a.toInt + b.toInt := t6_add (by omega) (by omega)
    have e1 : (Int64.ofNat 1).toInt = 1 := rfl
    have h2 : (a + b - Int64.ofNat 1).toInt = a.toInt + b.toInt - 1 := by rw [t6_sub (by omega) (by omega)]; omega
    rw [if_neg (fun h => e ((cmp_le a).mp h)), if_pos ((cmp_lt b).mpr hb), if_neg (fun h => by rw [h] at hb; exact absurd hb (by decide)), if_neg e]
    refine ⟨_, rfl, ?_⟩
    rw [t6_div (by omega) hb, h2]
theorem treadsFor_eq {V : ai_V} {h : Hs} (hO : HO h) (hC : CH V h) {i : Nat} (hi : i < hm h) (o : Int32) : ∃ v, d_House_treadsFor (on i) o V = some v ∧ v.toInt = td o.toInt (hpc h i).toInt := by
  have h6 := hO.1
  obtain ⟨-, ⟨p1, p2⟩, -⟩ := hO.2.2 i hi
  have ho := ti_hi o
  have hl := ti_lo o
  obtain ⟨q, e1, e2⟩ := qUp (V := V) (a := o.toInt64) (b := (hpc h i).toInt64) (by rw [t6_of]; omega) (by rw [t6_of]; omega) (by rw [t6_of]; omega)
  rw [t6_of, t6_of] at e2
  have hr := td_rng (o := o.toInt) (p := (hpc h i).toInt) p1
  rw [d_House_treadsFor, if_pos (by rw [on_in (by omega)]; omega), on_nn (by omega), hC.2.2.2.2.1, e1, bd_some]
  refine ⟨_, rfl, ?_⟩
  rw [t6_32 (by omega) (by omega), e2]
/-- the model's way to it -/
theorem tdM {o p : Int32} (hp : 1 ≤ p.toInt) (hp' : p.toInt ≤ 9) (ho : o.toInt < 2147483000) : ((ai_max 0 o + p - 1) / p).toInt = td o.toInt p.toInt := by
  have e0 : (0 : Int32).toInt = 0 := rfl
  have e1 : (1 : Int32).toInt = 1 := rfl
  have hm : (ai_max 0 o).toInt = max 0 o.toInt := by rw [ai_max_ti, e0]
  have h1 : (ai_max 0 o + p).toInt = max 0 o.toInt + p.toInt := by rw [ti_add (by omega) (by omega), hm]
  have h2 : (ai_max 0 o + p - 1).toInt = max 0 o.toInt + p.toInt - 1 := by rw [ti_sub (by omega) (by omega), h1, e1]
  rw [ti_div (by omega) (by omega), h2]
  unfold td
  by_cases e : o.toInt ≤ 0
  · rw [if_pos e, show max 0 o.toInt = 0 by omega, Int.zero_add]
    exact Int.ediv_eq_zero_of_lt (by omega) (by omega)
  · rw [if_neg e, show max 0 o.toInt = o.toInt by omega]
/-! thirst -/
def WS (h : Hs) (q : Nat) : Int32 := fo (fun j a => a + wnt h j q) (hm h) 0 0
theorem wantsIn_eq {V : ai_V} {h : Hs} (hO : HO h) (hC : CH V h) {q : Nat} (hq : q < 12) : d_House_wantsIn (on q) V = some (WS h q) := by
  have h6 := hO.1
  rw [d_House_wantsIn]
  refine (loop_fo (fun n (a : Int32) x => d_House_wantsIn_4 n (on q) a x V) (fun j a => a + wnt h j q) some (fun _ _ => True) (hm h) ?_ ?_ (hm h) 0 ai_N 0 (by omega) (N_gt (by omega)) trivial).1
  · intro n a i hi _
    refine ⟨?_, trivial⟩
    show d_House_wantsIn_4 (n + 1) (on q) a (on i) V = _
    rw [d_House_wantsIn_4, hC.1, if_neg (by rw [on_le (by omega) (by omega)]; omega), wantC_eq hO hC hi hq, bd_some, on_s]
  · intro n a _
    show d_House_wantsIn_4 (n + 1) (on q) a (on (hm h)) V = _
    rw [d_House_wantsIn_4, hC.1, if_pos (Int32.le_refl _)]
theorem wantsM_eq {V : ai_V} {h : Hs} (hO : HO h) (hM : MH V h) {w : Nat} (hw : w < 2147483648) : d_M_wantsOfAll (on w) V = some (WS h (w % 12)) := by
  have h6 := hO.1
  rw [d_M_wantsOfAll]
  refine (loop_fo (fun n (a : Int32) x => d_M_wantsOfAll_4 n (on w) a x V) (fun j a => a + wnt h j (w % 12)) some (fun _ _ => True) (hm h) ?_ ?_ (hm h) 0 ai_N 0 (by omega) (N_gt (by omega)) trivial).1
  · intro n a i hi _
    refine ⟨?_, trivial⟩
    show d_M_wantsOfAll_4 (n + 1) (on w) a (on i) V = _
    rw [d_M_wantsOfAll_4, hM.1, if_neg (by rw [on_le (by omega) (by omega)]; omega), wantM_eq hO hM hi hw, bd_some, on_s]
  · intro n a _
    show d_M_wantsOfAll_4 (n + 1) (on w) a (on (hm h)) V = _
    rw [d_M_wantsOfAll_4, hM.1, if_pos (Int32.le_refl _)]
def thS (h : Hs) (nw k : Nat) (a : Int32 × Int32 × Int32) : Int32 × Int32 × Int32 := (a.1 + WS h ((nw + k) % 12), if WS h ((nw + k) % 12) ≤ a.2.1 then a.2.1 else WS h ((nw + k) % 12), if WS h ((nw + k) % 12) ≤ a.2.1 then a.2.2 else on k)
def thP (h : Hs) (nw n : Nat) : Int32 × Int32 × Int32 := fo (fun k a => thS h nw k a) n 0 (0, -1, 0)
theorem thP_s (h : Hs) (nw n : Nat) : thP h nw (n + 1) = thS h nw n (thP h nw n) := by unfold thP; rw [fo_s, Nat.zero_add]
theorem st_thirst {N : Nat} {V : ai_V} (hI : Inv N V) (hN : N < 512) (x : Int32) : Step N V (d_X_thirst x) (d_M_thirst x) := by
  obtain ⟨h, f, z, rm, nw, kc, km, hS, hn, hb⟩ := hI.k
  have h6 := kc.1.1
  by_cases hx : 1 ≤ x ∧ x ≤ 60
  · obtain ⟨k, rfl, k1, k2⟩ := rng x 1 60 (by omega) (by omega) hx
    have X : ∃ V', d_X_thirst (on k) V = some ((thP h nw k).1, V') ∧ cRow V' [(thP h nw k).2.2.toInt64, (thP h nw k).2.1.toInt64] := by
      rw [d_X_thirst, if_neg (nlt.mpr hx.1), if_pos hx.2]
      have := loop_n (fun n (a : Int32 × Int32 × Int32) y V => d_X_thirst_23 n (on k) a.1 a.2.1 a.2.2 y V) (fun c : Int32 × ai_V => some c) (fun i a V' => a = thP h nw i ∧ V' = V) (fun c => c.1 = (thP h nw k).1 ∧ cRow c.2 [(thP h nw k).2.2.toInt64, (thP h nw k).2.1.toInt64]) k ?_ ?_ k 0 ai_N (0, -1, 0) V (by omega) (N_gt (by omega)) ⟨rfl, rfl⟩
      · obtain ⟨⟨c1, c2⟩, e, q1, q2⟩ := this
        simp only at q1 q2
        subst q1
        exact ⟨c2, e, q2⟩
      · rintro n ⟨s, mo, wh⟩ i V1 hi ⟨ha, rfl⟩
        show ∃ (a' : Int32 × Int32 × Int32) (V' : ai_V), d_X_thirst_23 (n + 1) (on k) s mo wh (on i) V1 = _ ∧ _
        have hs := thP_s h nw i
        rw [← ha, thS] at hs
        simp only at hs
        rw [d_X_thirst_23, if_neg (by rw [on_le (by omega) (by omega)]; omega), hS.2.1.1, hn, on_add, show (12 : Int32) = on 12 from rfl, on_mod (by omega) (by omega), wantsIn_eq kc.1 kc.2.1 (Nat.mod_lt _ (by decide)), bd_some]
        by_cases e : WS h ((nw + i) % 12) ≤ mo
        · rw [if_pos e, if_pos e] at hs
          rw [if_pos e, d_X_thirst_69, on_s]
          exact ⟨(_, _, _), V1, rfl, hs.symm, rfl⟩
        · rw [if_neg e, if_neg e] at hs
          rw [if_neg e, d_X_thirst_69, on_s]
          exact ⟨(_, _, _), V1, rfl, hs.symm, rfl⟩
      · rintro n ⟨s, mo, wh⟩ V1 ⟨ha, rfl⟩
        show ∃ c : Int32 × ai_V, d_X_thirst_23 (n + 1) (on k) s mo wh (on k) V1 = _ ∧ _
        obtain ⟨V2, e2, c2, -⟩ := tell2 wh.toInt64 mo.toInt64 V1
        rw [d_X_thirst_23, if_pos (Int32.le_refl _), e2, bd_some, ← ha]
        exact ⟨_, rfl, rfl, c2⟩
    obtain ⟨V1, e1, c1⟩ := X
    have F1 : Fr w_X_thirst V V1 := fr_X_thirst _ _ _ e1
    have z1 := hS.2.2.1.fr F1 rfl
    have M : ∃ V', d_M_thirst (on k) V1 = some ((thP h nw k).1, V') ∧ mRow V' [(thP h nw k).2.2.toInt64, (thP h nw k).2.1.toInt64] := by
      rw [d_M_thirst, isMore_on k1 k2, bd_some, if_pos (by decide)]
      have := loop_n (fun n (a : Int32 × Int32 × Int32) y V => d_M_thirst_24 n (on k) a.1 a.2.1 a.2.2 y V) (fun c : Int32 × ai_V => some c) (fun i a V' => a = thP h nw i ∧ V' = si V1 89 14 0) (fun c => c.1 = (thP h nw k).1 ∧ mRow c.2 [(thP h nw k).2.2.toInt64, (thP h nw k).2.1.toInt64]) k ?_ ?_ k 0 ai_N (0, -1, 0) (si V1 89 14 0) (by omega) (N_gt (by omega)) ⟨rfl, rfl⟩
      · obtain ⟨⟨c1, c2⟩, e, q1, q2⟩ := this
        simp only at q1 q2
        subst q1
        exact ⟨c2, e, q2⟩
      · rintro n ⟨s, mo, wh⟩ i V2 hi ⟨ha, rfl⟩
        show ∃ (a' : Int32 × Int32 × Int32) (V' : ai_V), d_M_thirst_24 (n + 1) (on k) s mo wh (on i) (si V1 89 14 0) = _ ∧ _
        have hs := thP_s h nw i
        rw [← ha, thS] at hs
        simp only at hs
        have hz13 : ga (si V1 89 14 0) 90 13 = on nw := by rw [ga_si, ← hn]; exact z1.1
        rw [d_M_thirst_24, if_neg (by rw [on_le (by omega) (by omega)]; omega), show ((13 : Int32)).toNatClampNeg = 13 from rfl, hz13, on_add, wantsM_eq km.1 ((km.fr F1 rfl).s14 0).2.1 (by omega), bd_some]
        by_cases e : WS h ((nw + i) % 12) ≤ mo
        · rw [if_pos e, if_pos e] at hs
          rw [if_neg (nlt.mpr e), d_M_thirst_67, on_s]
          exact ⟨(_, _, _), _, rfl, hs.symm, rfl⟩
        · rw [if_neg e, if_neg e] at hs
          rw [if_pos (nle.mp e), d_M_thirst_67, on_s]
          exact ⟨(_, _, _), _, rfl, hs.symm, rfl⟩
      · rintro n ⟨s, mo, wh⟩ V2 ⟨ha, rfl⟩
        show ∃ c : Int32 × ai_V, d_M_thirst_24 (n + 1) (on k) s mo wh (on k) (si V1 89 14 0) = _ ∧ _
        obtain ⟨V2, e2, c2, -⟩ := m_tell (m_row0 (si V1 89 14 0)) (by simp) wh.toInt64
        obtain ⟨V3, e3, c3, -⟩ := m_tell c2 (by simp) mo.toInt64
        rw [d_M_thirst_24, if_pos (Int32.le_refl _), e2, bd_some, e3, bd_some, ← ha]
        exact ⟨_, rfl, rfl, c3⟩
    obtain ⟨V2, e2, c2⟩ := M
    have F2 : Fr w_M_thirst V1 V2 := fr_M_thirst _ _ _ e2
    exact ⟨_, V1, V2, e1, e2, hI.qq F1 F2 rfl rfl rfl rfl (o := some _) (fun r hr => by obtain rfl := Option.some.inj hr; simp) c1 c2 (hI.x.fr2 F1 F2 rfl rfl)⟩
  · refine ⟨-1, V, si V 89 14 0, ?_, ?_, hI.no 0⟩
    · rw [d_X_thirst]
      by_cases e : x < 1
      · rw [if_pos e]
      · rw [if_neg e, if_neg (fun e2 => hx ⟨nlt.mp e, e2⟩)]
    · rw [d_M_thirst, isMore_eq, bd_some, if_neg (fun hn => hn (tf_neg hx))]
/-! shares, fairdue -/
def sh (h : Hs) (i : Nat) (d : Int32) : Int32 := (d * (hst h i + 1) + hpc h i - 1) / hpc h i
theorem chg_ti {h : Hs} (hO : HO h) {i : Nat} (hi : i < hm h) {d : Int32} (hd : 0 ≤ d.toInt ∧ d.toInt ≤ 9) : 0 ≤ (d * (hst h i + 1)).toInt ∧ (d * (hst h i + 1)).toInt ≤ 54 := by
  obtain ⟨⟨s1, s2⟩, -⟩ := hO.2.2 i hi
  have e1 : (1 : Int32).toInt = 1 := rfl
  have h1 : (hst h i + 1).toInt = (hst h i).toInt + 1 := by rw [ti_add (by omega) (by omega), e1]
  have hb : 0 ≤ d.toInt * ((hst h i).toInt + 1) ∧ d.toInt * ((hst h i).toInt + 1) ≤ 54 := by
    constructor
    · exact Int.mul_nonneg hd.1 (by omega)
    · have : d.toInt * ((hst h i).toInt + 1) ≤ 9 * 6 := Int.mul_le_mul hd.2 (by omega) (by omega) (by omega)
      omega
  rw [ti_mul (by rw [h1]; omega) (by rw [h1]; omega), h1]; exact hb
theorem sh_ti {h : Hs} (hO : HO h) {i : Nat} (hi : i < hm h) {d : Int32} (hd : 0 ≤ d.toInt ∧ d.toInt ≤ 9) : (sh h i d).toInt = td (d * (hst h i + 1)).toInt (hpc h i).toInt := by
  obtain ⟨-, ⟨p1, p2⟩, -⟩ := hO.2.2 i hi
  obtain ⟨c1, c2⟩ := chg_ti hO hi hd
  have := tdM (o := d * (hst h i + 1)) p1 p2 (by omega)
  have hm : ai_max 0 (d * (hst h i + 1)) = d * (hst h i + 1) := by
    rw [ti_eq, ai_max_ti]
    have e0 : (0 : Int32).toInt = 0 := rfl
    omega
  rw [hm] at this
  exact this
theorem shC_eq {V : ai_V} {h : Hs} (hO : HO h) (hC : CH V h) {i : Nat} (hi : i < hm h) {d : Int32} (hd : 0 ≤ d.toInt ∧ d.toInt ≤ 9) : d_House_chargeOf (on i) d V = some (d * (hst h i + 1)) ∧ d_House_treadsFor (on i) (d * (hst h i + 1)) V = some (sh h i d) := by
  have h6 := hO.1
  obtain ⟨v, e1, e2⟩ := treadsFor_eq hO hC hi (d * (hst h i + 1))
  refine ⟨by rw [d_House_chargeOf, if_pos (by rw [on_in (by omega)]; omega), on_nn (by omega), hC.2.2.2.1], ?_⟩
  rw [e1]
  congr 1
  rw [ti_eq, e2, sh_ti hO hi hd]
theorem shM_eq {V : ai_V} {h : Hs} (hO : HO h) (hM : MH V h) {i : Nat} (hi : i < hm h) (d : Int32) : d_M_shareOf (on i) d V = some (sh h i d) := by
  have h6 := hO.1
  obtain ⟨-, ⟨p1, p2⟩, -⟩ := hO.2.2 i hi
  have hin : ai_in (on i) 6 := by rw [on_in (by omega)]; omega
  rw [d_M_shareOf, if_pos hin, if_pos hin, if_pos hin, on_nn (by omega), hM.2.2.2.1, hM.2.2.2.2.1, if_neg (fun e => by rw [e] at p1; exact absurd p1 (by decide))]; rfl
def SB (h : Hs) (d : Int32) : Int32 := fo (fun i a => a + sh h i d) (hm h) 0 0
theorem SBC_eq {V : ai_V} {h : Hs} (hO : HO h) (hC : CH V h) {d : Int32} (hd : 0 ≤ d.toInt ∧ d.toInt ≤ 9) : d_House_treadsForDue d V = some (SB h d) := by
  have h6 := hO.1
  rw [d_House_treadsForDue]
  refine (loop_fo (fun n (a : Int32) x => d_House_treadsForDue_4 n d a x V) (fun j a => a + sh h j d) some (fun _ _ => True) (hm h) ?_ ?_ (hm h) 0 ai_N 0 (by omega) (N_gt (by omega)) trivial).1
  · intro n a i hi _
    refine ⟨?_, trivial⟩
    show d_House_treadsForDue_4 (n + 1) d a (on i) V = _
    obtain ⟨q1, q2⟩ := shC_eq hO hC hi hd
    rw [d_House_treadsForDue_4, hC.1, if_neg (by rw [on_le (by omega) (by omega)]; omega), q1, bd_some, q2, bd_some, on_s]
  · intro n a _
    show d_House_treadsForDue_4 (n + 1) d a (on (hm h)) V = _
    rw [d_House_treadsForDue_4, hC.1, if_pos (Int32.le_refl _)]
theorem SBM_eq {V : ai_V} {h : Hs} (hO : HO h) (hM : MH V h) (d : Int32) : d_M_sharesBy d V = some (SB h d) := by
  have h6 := hO.1
  rw [d_M_sharesBy]
  refine (loop_fo (fun n (a : Int32) x => d_M_sharesBy_4 n d a x V) (fun j a => a + sh h j d) some (fun _ _ => True) (hm h) ?_ ?_ (hm h) 0 ai_N 0 (by omega) (N_gt (by omega)) trivial).1
  · intro n a i hi _
    refine ⟨?_, trivial⟩
    show d_M_sharesBy_4 (n + 1) d a (on i) V = _
    rw [d_M_sharesBy_4, hM.1, if_neg (by rw [on_le (by omega) (by omega)]; omega), shM_eq hO hM hi, bd_some, on_s]
  · intro n a _
    show d_M_sharesBy_4 (n + 1) d a (on (hm h)) V = _
    rw [d_M_sharesBy_4, hM.1, if_pos (Int32.le_refl _)]
def shR (h : Hs) (i : Nat) : List Int64 := (List.range i).map (fun k => (sh h k (hdu h)).toInt64)
theorem shR_s (h : Hs) (i : Nat) : shR h (i + 1) = shR h i ++ [(sh h i (hdu h)).toInt64] := by
  unfold shR; rw [List.range_succ, List.map_append]; rfl
theorem shR_len (h : Hs) (i : Nat) : (shR h i).length = i := by simp [shR]
def shB (h : Hs) (k : Nat) : Int32 := fo (fun i a => a ||| (if sh h i (hdu h) ≤ 12 then 0 else (1 : Int32) <<< (on i &&& 31))) k 0 0
theorem shB_s (h : Hs) (k : Nat) : shB h (k + 1) = shB h k ||| (if sh h k (hdu h) ≤ 12 then 0 else (1 : Int32) <<< (on k &&& 31)) := by unfold shB; rw [fo_s, Nat.zero_add]
theorem st_shares {N : Nat} {V : ai_V} (hI : Inv N V) (hN : N < 512) : Step N V d_X_shares d_M_shares := by
  obtain ⟨h, f, z, rm, nw, kc, km, hS, hn, hb⟩ := hI.k
  have hO := kc.1
  have h6 := hO.1
  have hdd := hO.2.1
  have X : ∃ V', d_X_shares V = some (SB h (hdu h), V') ∧ cRow V' (shR h (hm h) ++ [(shB h (hm h)).toInt64]) := by
    obtain ⟨q1, q2⟩ := row_clear V
    rw [d_X_shares, q1, bd_some]
    have := loop_n (fun n (a : Int32) y V => d_X_shares_11 n a y V) (fun c : Int32 × ai_V => some c) (fun i a V' => a = shB h i ∧ cRow V' (shR h i) ∧ Fr ([(22, 1)], [23]) V V') (fun c => c.1 = SB h (hdu h) ∧ cRow c.2 (shR h (hm h) ++ [(shB h (hm h)).toInt64])) (hm h) ?_ ?_ (hm h) 0 ai_N 0 _ (by omega) (N_gt (by omega)) ⟨rfl, q2, Fr.si Fr.rf rfl⟩
    · obtain ⟨⟨c1, c2⟩, e, q1, q2⟩ := this
      simp only at q1 q2
      subst q1
      exact ⟨c2, e, q2⟩
    · rintro n a i V1 hi ⟨ha, hr, hF⟩
      have C1 := kc.2.1.fr hF rfl
      show ∃ (a' : Int32) (V' : ai_V), d_X_shares_11 (n + 1) a (on i) V1 = _ ∧ _
      obtain ⟨p1, p2⟩ := shC_eq hO C1 hi hdd
      obtain ⟨V2, e2, r2, F2⟩ := row_add hr (by rw [shR_len]; omega) (sh h i (hdu h)).toInt64
      have hs := shB_s h i
      rw [← ha] at hs
      rw [d_X_shares_11, C1.1, if_neg (by rw [on_le (by omega) (by omega)]; omega), C1.2.1, p1, bd_some, p2, bd_some, e2, bd_some]
      by_cases e : sh h i (hdu h) ≤ 12
      · rw [if_pos e] at hs
        rw [if_pos e, d_X_shares_69, on_s]
        exact ⟨_, V2, rfl, hs.symm, by rw [shR_s]; exact r2, Fr.tr hF F2 rfl⟩
      · rw [if_neg e] at hs
        rw [if_neg e, d_X_shares_69, on_s]
        exact ⟨_, V2, rfl, hs.symm, by rw [shR_s]; exact r2, Fr.tr hF F2 rfl⟩
    · rintro n a V1 ⟨ha, hr, hF⟩
      have C1 := kc.2.1.fr hF rfl
      show ∃ c : Int32 × ai_V, d_X_shares_11 (n + 1) a (on (hm h)) V1 = _ ∧ _
      obtain ⟨V2, e2, r2, F2⟩ := row_add hr (by rw [shR_len]; omega) a.toInt64
      have C2 := C1.fr F2 rfl
      rw [d_X_shares_11, C1.1, if_pos (Int32.le_refl _), e2, bd_some, C2.2.1, SBC_eq hO C2 hdd, bd_some, ← ha]
      exact ⟨_, rfl, rfl, r2⟩
  obtain ⟨V1, e1, c1⟩ := X
  have F1 : Fr w_X_shares V V1 := fr_X_shares _ _ e1
  have M : ∃ V', d_M_shares V1 = some (SB h (hdu h), V') ∧ mRow V' (shR h (hm h) ++ [(shB h (hm h)).toInt64]) := by
    rw [d_M_shares]
    have := loop_n (fun n (a : Int32) y V => d_M_shares_14 n a y V) (fun c : Int32 × ai_V => some c) (fun i a V' => a = shB h i ∧ mRow V' (shR h i) ∧ Fr ([(89, 14), (89, 13)], [97]) V1 V') (fun c => c.1 = SB h (hdu h) ∧ mRow c.2 (shR h (hm h) ++ [(shB h (hm h)).toInt64])) (hm h) ?_ ?_ (hm h) 0 ai_N 0 (si (si V1 89 14 0) 89 13 0) (by omega) (N_gt (by omega)) ⟨rfl, m_row0 _, Fr.si (Fr.si Fr.rf rfl) rfl⟩
    · obtain ⟨⟨c1, c2⟩, e, q1, q2⟩ := this
      simp only at q1 q2
      subst q1
      exact ⟨c2, e, q2⟩
    · rintro n a i V3 hi ⟨ha, hr, hF⟩
      have M3 := (km.2.1.fr F1 rfl).fr hF rfl
      show ∃ (a' : Int32) (V' : ai_V), d_M_shares_14 (n + 1) a (on i) V3 = _ ∧ _
      obtain ⟨V2, e2, r2, F2⟩ := m_tell hr (by rw [shR_len]; omega) (sh h i (hdu h)).toInt64
      have M2 := M3.fr F2 rfl
      have hs := shB_s h i
      rw [← ha] at hs
      rw [d_M_shares_14, M3.1, if_neg (by rw [on_le (by omega) (by omega)]; omega), M3.2.1, shM_eq hO M3 hi, bd_some, e2, bd_some, M2.2.1, shM_eq hO M2 hi, bd_some]
      by_cases e : sh h i (hdu h) ≤ 12
      · rw [if_pos e] at hs
        rw [if_pos e, d_M_shares_58, on_s]
        exact ⟨_, V2, rfl, hs.symm, by rw [shR_s]; exact r2, Fr.tr hF F2 rfl⟩
      · rw [if_neg e] at hs
        rw [if_neg e, d_M_shares_58, on_s]
        exact ⟨_, V2, rfl, hs.symm, by rw [shR_s]; exact r2, Fr.tr hF F2 rfl⟩
    · rintro n a V3 ⟨ha, hr, hF⟩
      have M3 := (km.2.1.fr F1 rfl).fr hF rfl
      show ∃ c : Int32 × ai_V, d_M_shares_14 (n + 1) a (on (hm h)) V3 = _ ∧ _
      obtain ⟨V2, e2, r2, F2⟩ := m_tell hr (by rw [shR_len]; omega) a.toInt64
      have M2 := M3.fr F2 rfl
      rw [d_M_shares_14, M3.1, if_pos (Int32.le_refl _), e2, bd_some, M2.2.1, SBM_eq hO M2, bd_some, ← ha]
      exact ⟨_, rfl, rfl, r2⟩
  obtain ⟨V2, e2, c2⟩ := M
  have F2 : Fr w_M_shares V1 V2 := fr_M_shares _ _ e2
  exact ⟨_, V1, V2, e1, e2, hI.qq F1 F2 rfl rfl rfl rfl (o := some _) (fun r hr => by obtain rfl := Option.some.inj hr; rw [List.length_append, shR_len]; simp; omega) c1 c2 (hI.x.fr2 F1 F2 rfl rfl)⟩
theorem SB_0 {h : Hs} (hO : HO h) : SB h 0 = 0 := by
  have key : ∀ k, k ≤ hm h → fo (fun i a => a + sh h i 0) k 0 (0 : Int32) = 0 := by
    intro k
    induction k with
    | zero => intro _; rfl
    | succ k ih =>
      intro hk
      rw [fo_s, ih (by omega), Nat.zero_add]
      have h0 : (sh h k 0).toInt = 0 := by
        rw [sh_ti hO (by omega) (by decide)]
        have : ((0 : Int32) * (hst h k + 1)).toInt = 0 := by rw [Int32.zero_mul]; rfl
        rw [this]; rfl
      have : sh h k 0 = 0 := ti_eq.mpr h0
      rw [this]; rfl
  exact key (hm h) (Nat.le_refl _)
theorem nine {i : Nat} (hi : i ≤ 9) : (9 : Int32) - on i = on (9 - i) := on_sub (i := 9) hi
theorem nine_s {i : Nat} (hi : i < 9) : on (9 - i) + (-1 : Int32) = 9 - on (i + 1) := by
  rw [nine (by omega)]
  have : ∀ i, i < 9 → on (9 - i) + (-1 : Int32) = on (9 - (i + 1)) := by decide +kernel
  exact this i hi
theorem st_fairdue {N : Nat} {V : ai_V} (hI : Inv N V) (hN : N < 512) : Step N V d_X_fairdue d_M_fairdue := by
  obtain ⟨h, f, z, rm, nw, kc, km, hS, hn, hb⟩ := hI.k
  have hO := kc.1
  have hon : ∀ d, d ≤ 9 → 0 ≤ (on d).toInt ∧ (on d).toInt ≤ 9 := fun d hd => by rw [on_ti (by omega)]; omega
  have X : ∃ (d : Nat) (V' : ai_V), d_X_fairdue V = some (on d, V') ∧ cRow V' [(SB h (on d)).toInt64] ∧ d ≤ 9 ∧ SB h (on d) ≤ 12 ∧ ∀ k, d < k → k ≤ 9 → ¬ SB h (on k) ≤ 12 := by
    rw [d_X_fairdue]
    have := loop_e (fun n (_ : Unit) y V => d_X_fairdue_3 n (9 - y) V) (fun c : Nat × ai_V => some (on c.1, c.2)) (fun i _ V' => V' = V ∧ ∀ k, 9 - i < k → k ≤ 9 → ¬ SB h (on k) ≤ 12) (fun c => cRow c.2 [(SB h (on c.1)).toInt64] ∧ c.1 ≤ 9 ∧ SB h (on c.1) ≤ 12 ∧ ∀ k, c.1 < k → k ≤ 9 → ¬ SB h (on k) ≤ 12) 9 ?_ ?_ 9 0 ai_N () V (by omega) (N_gt (by omega)) ⟨rfl, fun k h1 h2 => absurd h2 (by omega)⟩
    · obtain ⟨c, e, q⟩ := this
      exact ⟨c.1, c.2, e, q⟩
    · rintro n _ i V1 hi ⟨rfl, hk⟩
      show (∃ (a' : Unit) (V' : ai_V), d_X_fairdue_3 (n + 1) (9 - on i) V1 = _ ∧ _) ∨ (∃ c : Nat × ai_V, d_X_fairdue_3 (n + 1) (9 - on i) V1 = _ ∧ _)
      rw [nine (by omega), d_X_fairdue_3, if_neg (by rw [zero_on, on_le (by omega) (by omega)]; omega), SBC_eq hO kc.2.1 (hon _ (by omega)), bd_some]
      by_cases e : SB h (on (9 - i)) ≤ 12
      · right
        obtain ⟨V2, e2, c2, -⟩ := tell1 (SB h (on (9 - i))).toInt64 V1
        rw [if_neg (nlt.mpr e), e2, bd_some]
        exact ⟨(9 - i, V2), rfl, c2, (by show 9 - i ≤ 9; omega), e, hk⟩
      · left
        rw [if_pos (nle.mp e), nine_s hi]
        refine ⟨(), V1, rfl, rfl, fun k h1 h2 => ?_⟩
        by_cases ek : k = 9 - i
        · rw [ek]; exact e
        · exact hk k (by omega) h2
    · rintro n _ V1 ⟨rfl, hk⟩
      show ∃ c : Nat × ai_V, d_X_fairdue_3 (n + 1) (9 - on 9) V1 = _ ∧ _
      obtain ⟨V2, e2, c2, -⟩ := tell1 (Int64.ofNat 0) V1
      rw [d_X_fairdue_3, if_pos (by decide), e2, bd_some]
      have h0 : SB h (on 0) = 0 := SB_0 hO
      refine ⟨(0, V2), rfl, ?_, (by show 0 ≤ 9; omega), ?_, hk⟩
      · rw [h0]; exact c2
      · rw [h0]; decide
  obtain ⟨d, V1, e1, c1, d1, d2, d3⟩ := X
  have F1 : Fr w_X_fairdue V V1 := fr_X_fairdue _ _ e1
  have M : ∃ (d : Nat) (V' : ai_V), d_M_fairdue V1 = some (on d, V') ∧ mRow V' [(SB h (on d)).toInt64] ∧ d ≤ 9 ∧ SB h (on d) ≤ 12 ∧ ∀ k, d < k → k ≤ 9 → ¬ SB h (on k) ≤ 12 := by
    rw [d_M_fairdue]
    have hM1 := ((km.fr F1 rfl).s14 0).2.1
    have := loop_e (fun n (_ : Unit) y V => d_M_fairdue_8 n (9 - y) V) (fun c : Nat × ai_V => some (on c.1, c.2)) (fun i _ V' => V' = si V1 89 14 0 ∧ ∀ k, 9 - i < k → k ≤ 9 → ¬ SB h (on k) ≤ 12) (fun c => mRow c.2 [(SB h (on c.1)).toInt64] ∧ c.1 ≤ 9 ∧ SB h (on c.1) ≤ 12 ∧ ∀ k, c.1 < k → k ≤ 9 → ¬ SB h (on k) ≤ 12) 9 ?_ ?_ 9 0 ai_N () (si V1 89 14 0) (by omega) (N_gt (by omega)) ⟨rfl, fun k h1 h2 => absurd h2 (by omega)⟩
    · obtain ⟨c, e, q⟩ := this
      exact ⟨c.1, c.2, e, q⟩
    · rintro n _ i V3 hi ⟨rfl, hk⟩
      show (∃ (a' : Unit) (V' : ai_V), d_M_fairdue_8 (n + 1) (9 - on i) (si V1 89 14 0) = _ ∧ _) ∨ (∃ c : Nat × ai_V, d_M_fairdue_8 (n + 1) (9 - on i) (si V1 89 14 0) = _ ∧ _)
      rw [nine (by omega), d_M_fairdue_8, SBM_eq hO hM1, bd_some]
      by_cases e : SB h (on (9 - i)) ≤ 12
      · right
        have hM2 : MH (si (si V1 89 14 0) 89 13 0) h := hM1.fr (w := ([(89, 13)], [])) (Fr.si Fr.rf rfl) rfl
        obtain ⟨V2, e2, c2, -⟩ := m_tell (m_row0 (si V1 89 14 0)) (by simp) (SB h (on (9 - i))).toInt64
        rw [if_pos e, SBM_eq hO hM2, bd_some, e2, bd_some]
        exact ⟨(9 - i, V2), rfl, c2, (by show 9 - i ≤ 9; omega), e, hk⟩
      · left
        rw [if_neg e, nine_s hi]
        refine ⟨(), _, rfl, rfl, fun k h1 h2 => ?_⟩
        by_cases ek : k = 9 - i
        · rw [ek]; exact e
        · exact hk k (by omega) h2
    · rintro n _ V3 ⟨rfl, hk⟩
      show ∃ c : Nat × ai_V, d_M_fairdue_8 (n + 1) (9 - on 9) (si V1 89 14 0) = _ ∧ _
      have h0 : SB h (on 0) = 0 := SB_0 hO
      have hM2 : MH (si (si V1 89 14 0) 89 13 0) h := hM1.fr (w := ([(89, 13)], [])) (Fr.si Fr.rf rfl) rfl
      obtain ⟨V2, e2, c2, -⟩ := m_tell (m_row0 (si V1 89 14 0)) (by simp) (SB h (on 0)).toInt64
      rw [show (9 : Int32) - on 9 = on 0 from rfl, d_M_fairdue_8, SBM_eq hO hM1, bd_some, if_pos (by rw [h0]; decide), SBM_eq hO hM2, bd_some, e2, bd_some]
      exact ⟨(0, V2), rfl, c2, (by show 0 ≤ 9; omega), (by rw [h0]; decide), hk⟩
  obtain ⟨d', V2, e2, c2, t1, t2, t3⟩ := M
  have F2 : Fr w_M_fairdue V1 V2 := fr_M_fairdue _ _ e2
  have ed : d = d' := by
    rcases Nat.lt_trichotomy d d' with q | q | q
    · exact absurd t2 (d3 d' q t1)
    · exact q
    · exact absurd d2 (t3 d q d1)
  subst ed
  exact ⟨_, V1, V2, e1, e2, hI.qq F1 F2 rfl rfl rfl rfl (o := some _) (fun r hr => by obtain rfl := Option.some.inj hr; simp) c1 c2 (hI.x.fr2 F1 F2 rfl rfl)⟩
