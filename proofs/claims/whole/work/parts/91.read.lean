/-! ===== count, lodger, debt, row ===== -/
theorem dries_eq {V : ai_V} {h : Hs} {z : Ss} {N : Nat} (hO : HO h) (hM : MH V h) (hs : SO N (hm h) z) (hc : cS z V 16) (hz : mS z V 90 0) : ∃ v, d_State_dryInAll V = some v ∧ d_M_count_143 ai_N 0 0 V = some (v, V) := by
  have h6 := hO.1
  let g : Nat → Int32 → Int32 := fun k a => a + z.2.2.2 k
  have X : d_State_dryInAll V = some (fo g 6 0 0) := by
    rw [d_State_dryInAll]
    refine (loop_fo (fun n (a : Int32) x => d_State_dryInAll_4 n a x V) g some (fun _ _ => True) 6 ?_ ?_ 6 0 ai_N 0 (by omega) (N_gt (by omega)) trivial).1
    · intro n a i hi _
      refine ⟨?_, trivial⟩
      show d_State_dryInAll_4 (n + 1) a (on i) V = _
      have h18 : ga V 18 i = z.2.2.2 i := (hc.2.2 i hi).2
      rw [d_State_dryInAll_4, if_neg (by rw [show (6 : Int32) = on 6 from rfl, on_le (by omega) (by omega)]; omega), if_pos (by rw [on_in (by omega)]; omega), on_nn (by omega), h18, on_s]
    · intro n a _
      show d_State_dryInAll_4 (n + 1) a (on 6) V = _
      rw [d_State_dryInAll_4, if_pos (by decide)]
  have M : d_M_count_143 ai_N 0 0 V = some (fo g (hm h) 0 0, V) := by
    refine (loop_fo (fun n (a : Int32) x => d_M_count_143 n a x V) g (fun a => some (a, V)) (fun _ _ => True) (hm h) ?_ ?_ (hm h) 0 ai_N 0 (by omega) (N_gt (by omega)) trivial).1
    · intro n a i hi _
      refine ⟨?_, trivial⟩
      show d_M_count_143 (n + 1) a (on i) V = _
      have h90 := (hz.2.2 i (by omega)).2
      rw [Nat.zero_add] at h90
      rw [d_M_count_143, hM.1, if_neg (by rw [on_le (by omega) (by omega)]; omega), show (6 : Int32) = on 6 from rfl, on_add, if_pos (by rw [on_in (by omega)]; omega), on_nn (by omega), h90, on_s]
    · intro n a _
      show d_M_count_143 (n + 1) a (on (hm h)) V = _
      rw [d_M_count_143, hM.1, if_pos (Int32.le_refl _)]
  have E : ∀ k, hm h + k ≤ 6 → fo g (hm h + k) 0 0 = fo g (hm h) 0 0 := by
    intro k
    induction k with
    | zero => intro _; rfl
    | succ k ih =>
      intro hk
      rw [← Nat.add_assoc, fo_s, ih (by omega), Nat.zero_add]
      show _ + z.2.2.2 (hm h + k) = _
      rw [((hs.2.2 (hm h + k) (by omega)).2 (by omega)).2, Int32.add_zero]
  have E6 := E (6 - hm h) (by omega)
  rw [show hm h + (6 - hm h) = 6 by omega] at E6
  exact ⟨_, X, by rw [M, E6]⟩
theorem oif {α : Type} {c : Prop} [Decidable c] {a b : α} {r : Option α} (h : r = some b) : (if c then some a else r) = some (if c then a else b) := by
  by_cases e : c
  · rw [if_pos e, if_pos e]
  · rw [if_neg e, if_neg e, h]
theorem pif {α β : Type} {c : Prop} [Decidable c] {a b : α} {V : β} {r : Option (α × β)} (h : r = some (b, V)) : (if c then some (a, V) else r) = some (if c then a else b, V) := by
  by_cases e : c
  · rw [if_pos e, if_pos e]
  · rw [if_neg e, if_neg e, h]
theorem st_count {N : Nat} {V : ai_V} (hI : Inv N V) (hN : N < 512) (x : Int32) : ∃ v V2, d_X_count x V = some v ∧ d_M_count x V = some (v, V2) ∧ Inv (N + 1) V2 := by
  have hI0 := hI
  obtain ⟨h, f, z, rm, nw, kc, km, hS, hn, hb⟩ := hI.k
  obtain ⟨-, -, -, -, ⟨tn', t1, t2, t3, -⟩, -, -, -, ⟨rn, r1, r2, r3, -⟩, ⟨pn, px, p1, p2, p3, p4, p5, -⟩, -, -, ⟨gn, g1, g2, g3, -⟩, -⟩ := hI
  obtain ⟨s1, s2, s3, s4, s5, -⟩ := hS
  have km1 := km.s14 0
  have z1 : mS z (si V 89 14 0) 90 0 := s3.fr (w := ([(89, 14)], [])) (Fr.si Fr.rf rfl) rfl
  have z13 : ga (si V 89 14 0) 90 13 = z.1 := z1.1
  have z12 : ga (si V 89 14 0) 90 12 = z.2.1 := z1.2.1
  obtain ⟨dv, d1, d2⟩ := dries_eq (V := si V 89 14 0) kc.1 km1.2.1 s1 (s2.fr (w := ([(89, 14)], [])) (Fr.si Fr.rf rfl) rfl rfl rfl rfl) z1
  have d1' : d_State_dryInAll V = some dv := by
    rw [← d1, d_State_dryInAll, d_State_dryInAll]
    have : ∀ n a y, d_State_dryInAll_4 n a y V = d_State_dryInAll_4 n a y (si V 89 14 0) := by
      intro n
      induction n with
      | zero => intro a y; rfl
      | succ n ih => intro a y; rw [d_State_dryInAll_4, d_State_dryInAll_4, ga_si, ih]
    exact this _ _ _
  refine ⟨?v, si V 89 14 0, ?_, ?_, hI0.no 0⟩
  · exact if x = 0 then on (hm h) else if x = 1 then z.1 else if x = 2 then q12 z.1 else if x = 3 then z.1 / 12 else if x = 4 then z.2.1 else if x = 5 then rm else if x = 6 then hdu h else if x = 7 then WS h (nw % 12) else if x = 8 then dv else if x = 9 then on gn else if x = 10 then on pn else if x = 11 then on rn else if x = 12 then on tn' else -1
  · have hq : d_State_quarterNow V = some (q12 z.1) := by rw [d_State_quarterNow, s2.1]; rfl
    have hq' : q12 z.1 = on (nw % 12) := by rw [hn, q12_on (by omega)]
    have hw : d_House_wantsIn (q12 z.1) V = some (WS h (nw % 12)) := by rw [hq']; exact wantsIn_eq kc.1 kc.2.1 (Nat.mod_lt _ (by decide))
    rw [d_X_count, hq, bd_some, bd_some, hw, d1', kc.2.1.1, s2.1, s2.2.1, s4, kc.2.1.2.1, g2, p3, r2, t2]
    simp only [bd_some]
    iterate 13 refine oif ?_
    rfl
  · have hw : d_M_wantsOfAll z.1 (si V 89 14 0) = some (WS h (nw % 12)) := by rw [hn]; exact wantsM_eq km.1 km1.2.1 (by omega)
    rw [d_M_count, show ((13 : Int32)).toNatClampNeg = 13 from rfl, show ((12 : Int32)).toNatClampNeg = 12 from rfl, z13, z12, km1.2.1.1, m14 _ _ 89 8 (by decide), s5, km1.2.1.2.1, hw, d2, m14 _ _ 89 55 (by decide), g3, m14 _ _ 89 35 (by decide), p5, m14 _ _ 89 13 (by decide), r3, m14 _ _ 89 11 (by decide), t3]
    simp only [bd_some]
    iterate 13 refine pif ?_
    rfl
/-- the law's own cell changes nothing here -/
theorem Inv.o {N : Nat} {V : ai_V} (hI : Inv N V) (x : Int64) : Inv N (sl V 118 0 x) := by
  have F : Fr ([], [118]) V (sl V 118 0 x) := Fr.sl Fr.rf rfl
  obtain ⟨h, f, z, rm, h1, h2, h3, h4, h5, h6, h7, h8, h9, h10⟩ := hI
  exact ⟨h, f, z, rm, h1.sm (Sm.of F rfl), h2.sm (Sm.of F rfl), h3.sm (Sm.of F rfl), h4.sm (Sm.of F rfl) (by omega), h5.sm (Sm.of F rfl), h6.sm (Sm.of F rfl) (by omega), h7.sm (Sm.of F rfl) (by omega), h8.sm (Sm.of F rfl), h9.sm (Sm.of F rfl), h10.sm (Sm.of F rfl)⟩
theorem o118 (V : ai_V) (x : Int64) : gl (si (sl V 118 0 x) 89 14 0) 118 0 = x := by rw [gl_si, gl_sl, if_pos ⟨rfl, rfl⟩]
theorem st_debt {N : Nat} {V : ai_V} (hI : Inv N V) (hN : N < 512) (x : Int32) :
    (∃ v V2, d_X_debt x V = some v ∧ d_M_debt x (sl V 118 0 v.toInt64) = some (v, V2) ∧ d_M_thrown V2 = some 0 ∧ gl V2 118 0 = v.toInt64 ∧ Inv (N + 1) V2) ∨
    (d_House_has x V = some 0 ∧ ∃ u V2, d_M_debt x V = some (u, V2) ∧ d_M_thrown V2 = some 1 ∧ Inv (N + 1) V2) := by
  obtain ⟨h, f, z, rm, nw, kc, km, hS, hn, hb⟩ := hI.k
  have h6 := kc.1.1
  rcases hasX kc.1 x with ⟨i, hi, rfl⟩ | hx
  · left
    have h17 : ga V 17 i = z.2.2.1 i := (hS.2.1.2.2 i (by omega)).1
    have h90 := (hS.2.2.1.2.2 i (by omega)).1
    rw [Nat.zero_add] at h90
    have kmo : KM (si (sl V 118 0 (z.2.2.1 i).toInt64) 89 14 0) h f := km.fr (w := ([(89, 14)], [118])) (Fr.si (Fr.sl Fr.rf rfl) rfl) rfl
    refine ⟨z.2.2.1 i, si (sl V 118 0 (z.2.2.1 i).toInt64) 89 14 0, ?_, ?_, ?_, o118 _ _, (hI.o _).no 0⟩
    · rw [d_X_debt, has_eq kc.2.1, bd_some, if_pos (by rw [tf_pos (on_has kc.1 hi)]; decide), if_pos (by rw [on_in (by omega)]; omega), on_nn (by omega), h17]
    · rw [d_M_debt, isOne_eq kmo.1 kmo.2.1, bd_some, if_neg (by rw [tf_pos (on_has kc.1 hi)]; decide), if_pos (by rw [on_in (by omega)]; omega), on_nn (by omega), ga_si, ga_sl, h90]
    · rw [d_M_thrown, gi_si, if_pos ⟨rfl, rfl⟩]
  · right
    refine ⟨by rw [has_eq kc.2.1, tf_neg hx], 0, si (si V 89 14 0) 89 14 1, ?_, ?_, ?_⟩
    · rw [d_M_debt, isOne_eq km.1 (km.s14 0).2.1, bd_some, if_pos (tf_neg hx)]; rfl
    · rw [d_M_thrown, gi_si, if_pos ⟨rfl, rfl⟩]
    · have F : Fr ([(89, 14)], []) V (si (si V 89 14 0) 89 14 1) := Fr.si (Fr.si Fr.rf rfl) rfl
      exact hI.qq (w1 := ([], [])) Fr.rf F rfl rfl rfl rfl (o := none) (fun r h => by cases h) ⟨rfl, rfl⟩ ⟨rfl, rfl⟩ (hI.x.fr2 (w1 := ([], [])) Fr.rf F rfl rfl)
theorem st_row {N : Nat} {V : ai_V} (hI : Inv N V) (hN : N < 512) (x : Int32) :
    (∃ v V2, d_X_row x V = some v ∧ d_M_row x (sl V 118 0 v) = some (v, V2) ∧ d_M_thrown V2 = some 0 ∧ gl V2 118 0 = v ∧ Inv (N + 1) V2) ∨
    ((x < 0 ∨ (¬ x < 0 ∧ ¬ x < gi V 22 1)) ∧ ∃ u V2, d_M_row x V = some (u, V2) ∧ d_M_thrown V2 = some 1 ∧ Inv (N + 1) V2) := by
  have hI0 := hI
  obtain ⟨-, -, -, -, -, -, -, -, ⟨rn, r1, r2, r3, r4⟩, -⟩ := hI
  by_cases hx : 0 ≤ x ∧ x < on rn
  · left
    have hxi : ∃ i, i < rn ∧ x = on i := by
      refine ⟨x.toNatClampNeg, ?_, (on_of hx.1).symm⟩
      have := hx.2
      rw [← on_of hx.1, on_lt x.toNatClampNeg_lt (by omega)] at this
      exact this
    obtain ⟨i, hi, rfl⟩ := hxi
    have g13 : gi (si (sl V 118 0 (gl V 23 i)) 89 14 0) 89 13 = on rn := by rw [m14 _ _ 89 13 (by decide), gi_sl, r3]
    refine ⟨gl V 23 i, si (sl V 118 0 (gl V 23 i)) 89 14 0, ?_, ?_, ?_, o118 _ _, (hI0.o _).no 0⟩
    · rw [d_X_row, if_neg (by rw [on_n0 (by omega)]; exact id), r2, if_pos hx.2, if_pos (by rw [on_in (by omega)]; omega), on_nn (by omega)]
    · rw [d_M_row, g13, in_eq, bd_some, if_neg (by rw [tf_pos ⟨hx.1, (le_m1 (by omega) _).mpr hx.2⟩]; decide), if_pos (by rw [on_in (by omega)]; omega), on_nn (by omega), gl_si, gl_sl_ne (by decide), r4 i hi]
    · rw [d_M_thrown, gi_si, if_pos ⟨rfl, rfl⟩]
  · right
    refine ⟨?_, 0, si (si V 89 14 0) 89 14 1, ?_, ?_, ?_⟩
    · rw [r2]
      by_cases e : x < 0
      · exact Or.inl e
      · exact Or.inr ⟨e, fun e2 => hx ⟨nlt.mp e, e2⟩⟩
    · rw [d_M_row, m14 _ _ 89 13 (by decide), r3, in_eq, bd_some, if_pos (tf_neg (fun hc => hx ⟨hc.1, (le_m1 (by omega) _).mp hc.2⟩))]; rfl
    · rw [d_M_thrown, gi_si, if_pos ⟨rfl, rfl⟩]
    · have F : Fr ([(89, 14)], []) V (si (si V 89 14 0) 89 14 1) := Fr.si (Fr.si Fr.rf rfl) rfl
      exact hI0.qq (w1 := ([], [])) Fr.rf F rfl rfl rfl rfl (o := none) (fun r h => by cases h) ⟨rfl, rfl⟩ ⟨rfl, rfl⟩ (hI0.x.fr2 (w1 := ([], [])) Fr.rf F rfl rfl)
def WD (h : Hs) (i : Nat) : Int32 := fo (fun q a => a + wnt h i q) 12 0 0
theorem wday_C {V : ai_V} {h : Hs} (hO : HO h) (hC : CH V h) {i : Nat} (hi : i < hm h) : d_House_wantsOfDay (on i) V = some (WD h i) := by
  rw [d_House_wantsOfDay]
  refine (loop_fo (fun n (a : Int32) x => d_House_wantsOfDay_4 n (on i) a x V) (fun q a => a + wnt h i q) some (fun _ _ => True) 12 ?_ ?_ 12 0 ai_N 0 (by omega) (N_gt (by omega)) trivial).1
  · intro n a q hq _
    refine ⟨?_, trivial⟩
    show d_House_wantsOfDay_4 (n + 1) (on i) a (on q) V = _
    rw [d_House_wantsOfDay_4, if_neg (by rw [show (12 : Int32) = on 12 from rfl, on_le (by omega) (by omega)]; omega), wantC_eq hO hC hi hq, bd_some, on_s]
  · intro n a _
    show d_House_wantsOfDay_4 (n + 1) (on i) a (on 12) V = _
    rw [d_House_wantsOfDay_4, if_pos (by decide)]
theorem wday_M {V : ai_V} {h : Hs} (hO : HO h) (hM : MH V h) {i : Nat} (hi : i < hm h) : d_M_lodger_126 ai_N (on i) 0 0 V = some (WD h i, V) := by
  refine (loop_fo (fun n (a : Int32) x => d_M_lodger_126 n (on i) a x V) (fun q a => a + wnt h i q) (fun a => some (a, V)) (fun _ _ => True) 12 ?_ ?_ 12 0 ai_N 0 (by omega) (N_gt (by omega)) trivial).1
  · intro n a q hq _
    refine ⟨?_, trivial⟩
    show d_M_lodger_126 (n + 1) (on i) a (on q) V = _
    rw [d_M_lodger_126, if_neg (by rw [show (12 : Int32) = on 12 from rfl, on_le (by omega) (by omega)]; omega), wantM_eq hO hM hi (by omega), bd_some, on_s, Nat.mod_eq_of_lt hq]
  · intro n a _
    show d_M_lodger_126 (n + 1) (on i) a (on 12) V = _
    rw [d_M_lodger_126, if_pos (by decide)]

theorem st_lodger {N : Nat} {V : ai_V} (hI : Inv N V) (hN : N < 512) (x y : Int32) :
    (∃ v V2, d_X_lodger x y V = some v ∧ d_M_lodger x y (sl V 118 0 v.toInt64) = some (v, V2) ∧ d_M_thrown V2 = some 0 ∧ gl V2 118 0 = v.toInt64 ∧ Inv (N + 1) V2) ∨
    ((d_House_has x V = some 0 ∨ (d_House_has x V = some 1 ∧ ai_sel [(0, 64), (1, 74), (2, 84), (3, 94), (4, 110), (5, 120), (6, 132)] 141 y = 141)) ∧ ∃ u V2, d_M_lodger x y V = some (u, V2) ∧ d_M_thrown V2 = some 1 ∧ Inv (N + 1) V2) := by
  obtain ⟨h, f, z, rm, nw, kc, km, hS, hn, hb⟩ := hI.k
  have h6 := kc.1.1
  have T : ∃ u V2, d_M_lodger_23 (si V 89 14 0) = some (u, V2) ∧ d_M_thrown V2 = some 1 ∧ Inv (N + 1) V2 := by
    refine ⟨0, si (si V 89 14 0) 89 14 1, rfl, ?_, ?_⟩
    · rw [d_M_thrown, gi_si, if_pos ⟨rfl, rfl⟩]
    · have F : Fr ([(89, 14)], []) V (si (si V 89 14 0) 89 14 1) := Fr.si (Fr.si Fr.rf rfl) rfl
      exact hI.qq (w1 := ([], [])) Fr.rf F rfl rfl rfl rfl (o := none) (fun r h => by cases h) ⟨rfl, rfl⟩ ⟨rfl, rfl⟩ (hI.x.fr2 (w1 := ([], [])) Fr.rf F rfl rfl)
  rcases hasX kc.1 x with ⟨i, hi, rfl⟩ | hx
  · by_cases hy : 0 ≤ y ∧ y ≤ 6
    · left
      have hyi : ∃ k, k < 7 ∧ y = on k := by
        refine ⟨y.toNatClampNeg, ?_, (on_of hy.1).symm⟩
        have := hy.2
        rw [← on_of hy.1, show (6 : Int32) = on 6 from rfl, on_le y.toNatClampNeg_lt (by omega)] at this
        omega
      obtain ⟨k, hk, rfl⟩ := hyi
      have K : ∀ v : Int32, (∀ W : ai_V, KM W h f → mS z W 90 0 → d_M_lodger (on i) (on k) W = some (v, si W 89 14 0)) → d_X_lodger (on i) (on k) V = some v → ∃ v V2, d_X_lodger (on i) (on k) V = some v ∧ d_M_lodger (on i) (on k) (sl V 118 0 v.toInt64) = some (v, V2) ∧ d_M_thrown V2 = some 0 ∧ gl V2 118 0 = v.toInt64 ∧ Inv (N + 1) V2 := by
        intro v hm hx
        refine ⟨v, si (sl V 118 0 v.toInt64) 89 14 0, hx, ?_, ?_, o118 _ _, (hI.o _).no 0⟩
        · exact hm _ (km.fr (w := ([], [118])) (Fr.sl Fr.rf rfl) rfl) (hS.2.2.1.fr (w := ([], [118])) (Fr.sl Fr.rf rfl) rfl)
        · rw [d_M_thrown, gi_si, if_pos ⟨rfl, rfl⟩]
      have hin : ai_in (on i) 6 := by rw [on_in (by omega)]; omega
      have hnn : (on i).toNatClampNeg = i := on_nn (by omega)
      have hX : ∀ W, CH W h → d_House_has (on i) W = some 1 := fun W hC => by rw [has_eq hC, tf_pos (on_has kc.1 hi)]
      have hM : ∀ W, KM W h f → d_M_isOne (on i) (si W 89 14 0) = some 1 := fun W hC => by rw [isOne_eq hC.1 (hC.s14 0).2.1, tf_pos (on_has kc.1 hi)]
      have hq : d_State_quarterNow V = some (on (nw % 12)) := by rw [d_State_quarterNow, hS.2.1.1]; show some (q12 z.1) = _; rw [hn, q12_on (by omega)]
      have hL := kc.2.1
      rcases (show k = 0 ∨ k = 1 ∨ k = 2 ∨ k = 3 ∨ k = 4 ∨ k = 5 ∨ k = 6 by omega) with e | e | e | e | e | e | e <;> subst e
      · refine K (ga V 4 i) ?_ ?_
        · intro W hW hz
          rw [d_M_lodger, hM W hW, bd_some, if_neg (by decide), in_eq, bd_some, if_pos (by decide), if_pos (by decide), if_pos hin, hnn, ga_si, hW.2.1.2.2.2.1, hL.2.2.2.1]
        · rw [d_X_lodger, hX V kc.2.1, bd_some, if_pos (by decide), if_pos (by decide), if_pos hin, hnn]
      · refine K (ga V 5 i) ?_ ?_
        · intro W hW hz
          rw [d_M_lodger, hM W hW, bd_some, if_neg (by decide), in_eq, bd_some, if_pos (by decide), if_neg (by decide), if_pos (by decide), if_pos hin, hnn, ga_si, hW.2.1.2.2.2.2.1, hL.2.2.2.2.1]
        · rw [d_X_lodger, hX V kc.2.1, bd_some, if_pos (by decide), if_neg (by decide), if_pos (by decide), if_pos hin, hnn]
      · refine K (ga V 6 i) ?_ ?_
        · intro W hW hz
          rw [d_M_lodger, hM W hW, bd_some, if_neg (by decide), in_eq, bd_some, if_pos (by decide), if_neg (by decide), if_neg (by decide), if_pos (by decide), if_pos hin, hnn, ga_si, hW.2.1.2.2.2.2.2.1, hL.2.2.2.2.2.1]
        · rw [d_X_lodger, hX V kc.2.1, bd_some, if_pos (by decide), if_neg (by decide), if_neg (by decide), if_pos (by decide), if_pos hin, hnn]
      · refine K (wnt h i (nw % 12)) ?_ ?_
        · intro W hW hz
          rw [d_M_lodger, hM W hW, bd_some, if_neg (by decide), in_eq, bd_some, if_pos (by decide), if_neg (by decide), if_neg (by decide), if_neg (by decide), if_pos (by decide), show ((13 : Int32)).toNatClampNeg = 13 from rfl, ga_si, show ga W 90 13 = z.1 from hz.1, hn, wantM_eq kc.1 (hW.s14 0).2.1 hi (by omega), bd_some]
        · rw [d_X_lodger, hX V kc.2.1, bd_some, if_pos (by decide), if_neg (by decide), if_neg (by decide), if_neg (by decide), if_pos (by decide), hq, bd_some, wantC_eq kc.1 hL hi (Nat.mod_lt _ (by decide)), bd_some]
      · refine K (z.2.2.2 i) ?_ ?_
        · intro W hW hz
          rw [d_M_lodger, hM W hW, bd_some, if_neg (by decide), in_eq, bd_some, if_pos (by decide), if_neg (by decide), if_neg (by decide), if_neg (by decide), if_neg (by decide), if_pos (by decide), show (6 : Int32) = on 6 from rfl, on_add, if_pos (by rw [on_in (by omega)]; omega), on_nn (by omega), ga_si, show ga W 90 (6 + i) = z.2.2.2 i by have := (hz.2.2 i (by omega)).2; rw [Nat.zero_add] at this; exact this]
        · rw [d_X_lodger, hX V kc.2.1, bd_some, if_pos (by decide), if_neg (by decide), if_neg (by decide), if_neg (by decide), if_neg (by decide), if_pos (by decide), if_pos hin, hnn, (hS.2.1.2.2 i (by omega)).2]
      · refine K ((hbr h >>> (on i &&& 31)) &&& 1) ?_ ?_
        · intro W hW hz
          rw [d_M_lodger, hM W hW, bd_some, if_neg (by decide), in_eq, bd_some, if_pos (by decide), if_neg (by decide), if_neg (by decide), if_neg (by decide), if_neg (by decide), if_neg (by decide), if_pos (by decide), m14 _ _ 89 7 (by decide), hW.2.1.2.2.1]
        · rw [d_X_lodger, hX V kc.2.1, bd_some, if_pos (by decide), if_neg (by decide), if_neg (by decide), if_neg (by decide), if_neg (by decide), if_neg (by decide), if_pos (by decide), hL.2.2.1]
      · refine K (WD h i) ?_ ?_
        · intro W hW hz
          rw [d_M_lodger, hM W hW, bd_some, if_neg (by decide), in_eq, bd_some, if_pos (by decide), if_neg (by decide), if_neg (by decide), if_neg (by decide), if_neg (by decide), if_neg (by decide), if_neg (by decide), wday_M kc.1 (hW.s14 0).2.1 hi]
        · rw [d_X_lodger, hX V kc.2.1, bd_some, if_pos (by decide), if_neg (by decide), if_neg (by decide), if_neg (by decide), if_neg (by decide), if_neg (by decide), if_neg (by decide), if_pos (by decide), wday_C kc.1 hL hi, bd_some]
    · right
      refine ⟨Or.inr ⟨by rw [has_eq kc.2.1, tf_pos (on_has kc.1 hi)], ?_⟩, ?_⟩
      · have ne : ∀ k : Int32, 0 ≤ k → k ≤ 6 → y ≠ k := fun k h0 h1 e => hy (by rw [e]; exact ⟨h0, h1⟩)
        simp only [ai_sel]
        rw [if_neg (ne 0 (by decide) (by decide)), if_neg (ne 1 (by decide) (by decide)), if_neg (ne 2 (by decide) (by decide)), if_neg (ne 3 (by decide) (by decide)), if_neg (ne 4 (by decide) (by decide)), if_neg (ne 5 (by decide) (by decide)), if_neg (ne 6 (by decide) (by decide))]
      · rw [d_M_lodger, isOne_eq km.1 (km.s14 0).2.1, bd_some, if_neg (by rw [tf_pos (on_has kc.1 hi)]; decide), in_eq, bd_some, if_neg (fun hn => hn (tf_neg hy))]
        exact T
  · right
    refine ⟨Or.inl (by rw [has_eq kc.2.1, tf_neg hx]), ?_⟩
    rw [d_M_lodger, isOne_eq km.1 (km.s14 0).2.1, bd_some, if_pos (tf_neg hx)]
    exact T
