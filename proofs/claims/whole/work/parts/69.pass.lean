/-! ===== printed by wip/gen/tmpl.py: a quarter goes by in the class ===== -/
/-- a quarter: what is lifted, what runs over, who is dry, the state behind it -/
def qlif (h : Hs) (f : Rf) (b : Nat) (z : Ss) : Int32 := LA h f b z.2.1 (q12 z.1) (hbr h)
def qovr (h : Hs) (f : Rf) (rm : Int32) (b : Nat) (z : Ss) : Int32 := ai_max 0 (z.2.1 + qlif h f b z - rm)
def qT (h : Hs) (f : Rf) (l : List Nat) (rm : Int32) (b : Nat) (z : Ss) : Int32 × Nat := tk h (z.1.toNatClampNeg % 12) l (z.2.1 + (qlif h f b z - qovr h f rm b z), 0)
def qz (h : Hs) (f : Rf) (l : List Nat) (rm : Int32) (b : Nat) (z : Ss) : Ss := (z.1 + 1, (qT h f l rm b z).1, fun k => z.2.2.1 k - (if b.testBit k = true then tn h b else 0) + (if q12 (z.1 + 1) = 0 ∧ k < hm h then hdu h * (hst h k + 1) else 0), fun k => z.2.2.2 k + tf ((qT h f l rm b z).2.testBit k = true))
theorem charge_16 {V : ai_V} {h : Hs} (hO : HO h) (hC : CH V h) : ∃ V', d_Wheel_pass_176 ai_N (0 : Int32) V = some V' ∧ (∀ k, k < 6 → ga V' 17 k = ga V 17 k + (if k < hm h then hdu h * (hst h k + 1) else 0)) ∧ Fr ([], [17]) V V' := by
  have h6 := hO.1
  refine loop_n (fun n (_ : Unit) x V => d_Wheel_pass_176 n x V) (fun c : ai_V => some c)
    (fun i _ V1 => (∀ k, k < 6 → ga V1 17 k = ga V 17 k + (if k < i then hdu h * (hst h k + 1) else 0)) ∧ Fr ([], [17]) V V1)
    (fun V' => (∀ k, k < 6 → ga V' 17 k = ga V 17 k + (if k < hm h then hdu h * (hst h k + 1) else 0)) ∧ Fr ([], [17]) V V') (hm h) ?_ ?_ (hm h) 0 ai_N () V (by omega) (N_gt (by omega)) ⟨fun k hk => by simp, Fr.rf⟩
  · rintro n _ i V1 e ⟨a1, hF⟩
    have C1 := hC.fr hF rfl
    show ∃ a' V', d_Wheel_pass_176 (n + 1) (on i) V1 = _ ∧ _
    have hin : ai_in (on i) 6 := by rw [on_in (by omega)]; omega
    rw [d_Wheel_pass_176, C1.1, if_neg (by rw [on_le (by omega) (by omega)]; omega), if_pos hin, d_House_chargeOf, if_pos hin, bd_some, if_pos hin, on_s, on_nn (by omega), C1.2.1, C1.2.2.2.1]
    refine ⟨(), _, rfl, ?_, Fr.sa hF rfl⟩
    intro k hk
    simp only [ga_sa, true_and]
    by_cases e3 : k = i
    · rw [if_pos e3, e3, a1 i (by omega), if_neg (by omega), if_pos (by omega)]; simp
    · rw [if_neg e3, a1 k hk]
      congr 1
      by_cases e4 : k < i
      · rw [if_pos e4, if_pos (by omega)]
      · rw [if_neg e4, if_neg (by omega)]
  · rintro n _ V1 ⟨a1, hF⟩
    have C1 := hC.fr hF rfl
    show ∃ c, d_Wheel_pass_176 (n + 1) (on (hm h)) V1 = _ ∧ _
    rw [d_Wheel_pass_176, C1.1, if_pos (Int32.le_refl _)]
    exact ⟨V1, rfl, a1, hF⟩
theorem pass144_16 {V : ai_V} {h : Hs} {nw : Nat} {z : Ss} (hO : HO h) (hC : CH V h) (hl : CO V 9 (ordL (hst h) (hm h))) (hz : cS z V 16) (hn : z.1 = on nw) (hnw : nw < 2147483647) :
    ∃ V', d_Wheel_pass_144 V = some V' ∧ cS (z.1 + 1, (tk h (nw % 12) (ordL (hst h) (hm h)) (z.2.1, 0)).1, fun k => z.2.2.1 k + (if q12 (z.1 + 1) = 0 ∧ k < hm h then hdu h * (hst h k + 1) else 0), fun k => z.2.2.2 k + tf ((tk h (nw % 12) (ordL (hst h) (hm h)) (z.2.1, 0)).2.testBit k = true)) V' 16 ∧
      gi V' 15 4 = on (tk h (nw % 12) (ordL (hst h) (hm h)) (z.2.1, 0)).2 ∧ gi V' 15 5 = on (popc (tk h (nw % 12) (ordL (hst h) (hm h)) (z.2.1, 0)).2) ∧ Fr ([(15, 4), (15, 5), (16, 0), (16, 1)], [17, 18]) V V' := by
  obtain ⟨z1, z2, z3⟩ := hz
  obtain ⟨V1, e1, t1, t2, t3, t4⟩ := take_16 hO hC hl (ordL_len (fun i hi => (hO.2.2 i hi).1)) (ordL_nd _ _) (fun j hj => ordL_mem hj) (by rw [z1, hn]) (by omega)
  have F1 : Fr w_Wheel_take V V1 := fr_Wheel_take _ _ e1
  rw [z2] at t1 t2 t3 t4
  rw [d_Wheel_pass_144, e1, bd_some, d_State_quarterNow]
  have g0 : gi V1 16 0 = z.1 := by rw [F1.gi 16 0 rfl, z1]
  simp only [gi_si]
  simp only [and_self, if_true, bd_some, g0]
  have q0 : z.1 + 1 - (z.1 + 1) / 12 * 12 = q12 (z.1 + 1) := rfl
  rw [q0]
  by_cases e : q12 (z.1 + 1) = 0
  · rw [if_neg (fun hn => hn e)]
    have C2 : CH (si V1 16 0 (z.1 + 1)) h := (hC.fr F1 rfl).fr (w := ([(16, 0)], [])) (Fr.si Fr.rf rfl) rfl
    obtain ⟨V2, e2, c1, F2⟩ := charge_16 hO C2
    refine ⟨V2, e2, ⟨?_, ?_, ?_⟩, ?_, ?_, Fr.tr (Fr.si (Fr.tr Fr.rf F1 rfl) rfl) F2 rfl⟩
    · rw [F2.gi 16 0 rfl]; simp only [gi_si]; simp
    · rw [F2.gi 16 1 rfl]; simp only [gi_si]; simp [t1]
    · intro k hk
      refine ⟨?_, ?_⟩
      · show ga V2 17 k = _
        rw [c1 k hk, ga_si, F1.ga 17 rfl, (z3 k hk).1]
        simp [e]
      · show ga V2 18 k = _
        rw [F2.ga 18 rfl, ga_si, t4 k hk, (z3 k hk).2]
    · rw [F2.gi 15 4 rfl]; simp only [gi_si]; simp [t2]
    · rw [F2.gi 15 5 rfl]; simp only [gi_si]; simp [t3]
  · rw [if_pos e]
    refine ⟨_, rfl, ⟨?_, ?_, ?_⟩, ?_, ?_, Fr.si (Fr.tr Fr.rf F1 rfl) rfl⟩
    · simp only [gi_si]; simp
    · simp only [gi_si]; simp [t1]
    · intro k hk
      refine ⟨?_, ?_⟩
      · show ga _ 17 k = _
        rw [ga_si, F1.ga 17 rfl, (z3 k hk).1]
        simp [e]
      · show ga _ 18 k = _
        rw [ga_si, t4 k hk, (z3 k hk).2]
    · simp only [gi_si]; simp [t2]
    · simp only [gi_si]; simp [t3]
def pV_16 (a c : Int32) (W : ai_V) : ai_V := si (si (si W 15 2 (a + c)) 15 3 (ai_max (0 : Int32) (((gi (si W 15 2 (a + c)) 16 1) + (gi (si W 15 2 (a + c)) 15 2)) - (gi (si W 15 2 (a + c)) 16 2)))) 16 1 ((gi (si (si W 15 2 (a + c)) 15 3 (ai_max (0 : Int32) (((gi (si W 15 2 (a + c)) 16 1) + (gi (si W 15 2 (a + c)) 15 2)) - (gi (si W 15 2 (a + c)) 16 2)))) 16 1) + ((gi (si (si W 15 2 (a + c)) 15 3 (ai_max (0 : Int32) (((gi (si W 15 2 (a + c)) 16 1) + (gi (si W 15 2 (a + c)) 15 2)) - (gi (si W 15 2 (a + c)) 16 2)))) 15 2) - (gi (si (si W 15 2 (a + c)) 15 3 (ai_max (0 : Int32) (((gi (si W 15 2 (a + c)) 16 1) + (gi (si W 15 2 (a + c)) 15 2)) - (gi (si W 15 2 (a + c)) 16 2)))) 15 3)))
def passT_16 (x y : Int32) (V : ai_V) : Option ai_V := (d_House_turnsOf x y V).bind fun q8 => (d_House_has x V).bind fun q9 => if q9 = 0 then d_Wheel_pass_122 y q8 V else if ai_in x 6 then if ai_in x 6 then d_Wheel_pass_122 y q8 (sa V 17 (x).toNatClampNeg ((ga V 17 (x).toNatClampNeg) - q8)) else none else none
theorem pass_unf_16 (x y : Int32) (V : ai_V) : d_Wheel_pass x y V = (d_State_quarterNow V).bind fun q5 => (d_Wheel_pails x y (gi V 16 1) q5 (gi V 3 2) V).bind fun q6 => (d_Wheel_pails y x (gi q6.2 16 1) q5 (gi q6.2 3 2) q6.2).bind fun q7 => passT_16 x y (pV_16 q6.1 q7.1 q7.2) := rfl
theorem passT_eq_16 {V : ai_V} {h : Hs} {z : Ss} {x y : Int32} {b : Nat} (hO : HO h) (hC : CH V h) (hp : pr h x y b) (hz : cS z V 16) : ∃ V4, passT_16 x y V = d_Wheel_pass_144 V4 ∧ cS (z.1, z.2.1, fun k => z.2.2.1 k - (if b.testBit k = true then tn h b else 0), z.2.2.2) V4 16 ∧ Fr ([], [17]) V V4 := by
  have h6 := hO.1
  obtain ⟨z1, z2, z3⟩ := hz
  rw [passT_16, turnsC_eq hO hC hp, bd_some, has_eq hC, bd_some]
  rcases hp with ⟨rfl, rfl, rfl⟩ | ⟨i, hi, rfl, rfl, rfl⟩ | ⟨i, j, hi, hj, hn, rfl, rfl, rfl⟩
  · rw [if_pos (tf_neg no_has), d_Wheel_pass_122, has_eq hC, bd_some, if_pos (tf_neg no_has)]
    refine ⟨V, rfl, ⟨z1, z2, fun k hk => ⟨?_, (z3 k hk).2⟩⟩, Fr.rf⟩
    rw [(z3 k hk).1]; simp
  · have hin : ai_in (on i) 6 := by rw [on_in (by omega)]; omega
    rw [if_neg (by rw [tf_pos (on_has hO hi)]; decide), if_pos hin, if_pos hin]
    have C2 : CH (sa V 17 (on i).toNatClampNeg (ga V 17 (on i).toNatClampNeg - tn h (2 ^ i))) h := hC.fr (w := ([], [17])) (Fr.sa Fr.rf rfl) rfl
    rw [d_Wheel_pass_122, has_eq C2, bd_some, if_pos (tf_neg no_has)]
    refine ⟨_, rfl, ⟨z1, z2, fun k hk => ⟨?_, ?_⟩⟩, Fr.sa Fr.rf rfl⟩
    · show ga _ 17 k = _
      simp only [ga_sa, true_and, on_nn (show i < 2147483648 by omega), tb_one i (by omega) k hk]
      by_cases e : k = i
      · rw [if_pos e, if_pos e, e, (z3 i (by omega)).1]
      · rw [if_neg e, if_neg e, (z3 k hk).1]; simp
    · show ga _ 18 k = _
      rw [ga_sa_ne (by decide)]; exact (z3 k hk).2
  · have hin : ai_in (on i) 6 := by rw [on_in (by omega)]; omega
    have hjn : ai_in (on j) 6 := by rw [on_in (by omega)]; omega
    rw [if_neg (by rw [tf_pos (on_has hO hi)]; decide), if_pos hin, if_pos hin]
    have C2 : CH (sa V 17 (on i).toNatClampNeg (ga V 17 (on i).toNatClampNeg - tn h (2 ^ i ||| 2 ^ j))) h := hC.fr (w := ([], [17])) (Fr.sa Fr.rf rfl) rfl
    rw [d_Wheel_pass_122, has_eq C2, bd_some, if_neg (by rw [tf_pos (on_has hO hj)]; decide), if_pos hjn, if_pos hjn]
    refine ⟨_, rfl, ⟨z1, z2, fun k hk => ⟨?_, ?_⟩⟩, Fr.sa (Fr.sa Fr.rf rfl) rfl⟩
    · show ga _ 17 k = _
      simp only [ga_sa, true_and, on_nn (show i < 2147483648 by omega), on_nn (show j < 2147483648 by omega), tb_two i (by omega) j (by omega) k hk]
      by_cases e : k = j
      · subst e
        rw [if_pos rfl, if_neg (fun e => hn e.symm), if_pos (Or.inr rfl), (z3 k hk).1]
      · rw [if_neg e]
        by_cases e2 : k = i
        · subst e2
          rw [if_pos rfl, if_pos (Or.inl rfl), (z3 k hk).1]
        · rw [if_neg e2, if_neg (by rintro (e' | e') <;> contradiction), (z3 k hk).1]; simp
    · show ga _ 18 k = _
      rw [ga_sa_ne (by decide), ga_sa_ne (by decide)]; exact (z3 k hk).2
theorem pass_16 {V : ai_V} {h : Hs} {f : Rf} {nw : Nat} {z : Ss} {x y rm : Int32} {b : Nat} (hO : HO h) (hC : CH V h) (hR : CR V f) (hl : CO V 9 (ordL (hst h) (hm h))) (hp : pr h x y b) (hz : cS z V 16) (hr : gi V 16 2 = rm) (hn : z.1 = on nw) (hnw : nw < 2147483647) :
    ∃ V', d_Wheel_pass x y V = some V' ∧ cS (qz h f (ordL (hst h) (hm h)) rm b z) V' 16 ∧ gi V' 15 2 = qlif h f b z ∧ gi V' 15 3 = qovr h f rm b z ∧ gi V' 15 4 = on (qT h f (ordL (hst h) (hm h)) rm b z).2 ∧ gi V' 15 5 = on (popc (qT h f (ordL (hst h) (hm h)) rm b z).2) := by
  have h6 := hO.1
  obtain ⟨z1, z2, z3⟩ := hz
  have hq : d_State_quarterNow V = some (q12 z.1) := by rw [d_State_quarterNow, z1]; rfl
  obtain ⟨Va, ea⟩ := pails_1 hO hC hR hp z.2.1 (q12 z.1) (hbr h)
  have Fa : Fr w_Wheel_pails V Va := fr_Wheel_pails _ _ _ _ _ _ _ ea
  have Ca := hC.fr Fa rfl
  obtain ⟨Vb, eb⟩ := pails_2 hO Ca (hR.fr Fa rfl) hp z.2.1 (q12 z.1) (hbr h)
  have Fb : Fr w_Wheel_pails V Vb := Fr.tr Fa (fr_Wheel_pails _ _ _ _ _ _ _ eb) rfl
  rw [pass_unf_16, hq, bd_some, z2, hC.2.2.1, ea, bd_some]
  show ∃ V', ((d_Wheel_pails y x (gi Va 16 1) (q12 z.1) (gi Va 3 2) Va).bind fun q7 => passT_16 x y (pV_16 (lfo h f x b z.2.1 (q12 z.1) (hbr h)) q7.1 q7.2)) = some V' ∧ _
  rw [Fa.gi 16 1 rfl, z2, Ca.2.2.1, eb, bd_some]
  show ∃ V', passT_16 x y (pV_16 (lfo h f x b z.2.1 (q12 z.1) (hbr h)) (lfo h f y b z.2.1 (q12 z.1) (hbr h)) Vb) = some V' ∧ _
  have hlif : lfo h f x b z.2.1 (q12 z.1) (hbr h) + lfo h f y b z.2.1 (q12 z.1) (hbr h) = qlif h f b z := lfo_sum hO f hp _ _ _
  generalize hV3 : pV_16 (lfo h f x b z.2.1 (q12 z.1) (hbr h)) (lfo h f y b z.2.1 (q12 z.1) (hbr h)) Vb = V3
  have F3 : Fr ([(15, 2), (15, 3), (16, 1)], []) Vb V3 := by
    rw [← hV3]; exact Fr.si (Fr.si (Fr.si Fr.rf rfl) rfl) rfl
  have b1 : gi Vb 16 1 = z.2.1 := by rw [Fb.gi 16 1 rfl, z2]
  have b2 : gi Vb 16 2 = rm := by rw [Fb.gi 16 2 rfl, hr]
  have v1 : gi V3 15 2 = qlif h f b z := by rw [← hV3, ← hlif]; simp only [pV_16, gi_si]; simp
  have v2 : gi V3 15 3 = qovr h f rm b z := by rw [← hV3, qovr, ← hlif]; simp only [pV_16, gi_si]; simp [b1, b2]
  have v3 : gi V3 16 1 = z.2.1 + (qlif h f b z - qovr h f rm b z) := by rw [← hV3, qovr, ← hlif]; simp only [pV_16, gi_si]; simp [b1, b2]
  have C3 := (hC.fr Fb rfl).fr F3 rfl
  have O3 := (hl.fr Fb rfl).fr F3 rfl
  have Z3 : cS (z.1, z.2.1 + (qlif h f b z - qovr h f rm b z), z.2.2.1, z.2.2.2) V3 16 := by
    refine ⟨?_, v3, fun k hk => ⟨?_, ?_⟩⟩
    · rw [F3.gi 16 0 rfl, Fb.gi 16 0 rfl]; exact z1
    · show ga V3 17 k = _
      rw [F3.ga 17 rfl, Fb.ga 17 rfl]; exact (z3 k hk).1
    · show ga V3 18 k = _
      rw [F3.ga 18 rfl, Fb.ga 18 rfl]; exact (z3 k hk).2
  obtain ⟨V4, e4, Z4, F4⟩ := passT_eq_16 hO C3 hp Z3
  obtain ⟨V5, e5, Z5, t4, t5, F5⟩ := pass144_16 hO (C3.fr F4 rfl) (O3.fr F4 rfl) Z4 hn hnw
  have hnn : z.1.toNatClampNeg = nw := by rw [hn, on_nn (by omega)]
  refine ⟨V5, e4.trans e5, ?_, ?_, ?_, ?_, ?_⟩
  · unfold qz qT; rw [hnn]; exact Z5
  · rw [F5.gi 15 2 rfl, F4.gi 15 2 rfl, v1]
  · rw [F5.gi 15 3 rfl, F4.gi 15 3 rfl, v2]
  · unfold qT; rw [hnn]; exact t4
  · unfold qT; rw [hnn]; exact t5

theorem charge_19 {V : ai_V} {h : Hs} (hO : HO h) (hC : CH V h) : ∃ V', d_Wheel_pass_15_19_176 ai_N (0 : Int32) V = some V' ∧ (∀ k, k < 6 → ga V' 20 k = ga V 20 k + (if k < hm h then hdu h * (hst h k + 1) else 0)) ∧ Fr ([], [20]) V V' := by
  have h6 := hO.1
  refine loop_n (fun n (_ : Unit) x V => d_Wheel_pass_15_19_176 n x V) (fun c : ai_V => some c)
    (fun i _ V1 => (∀ k, k < 6 → ga V1 20 k = ga V 20 k + (if k < i then hdu h * (hst h k + 1) else 0)) ∧ Fr ([], [20]) V V1)
    (fun V' => (∀ k, k < 6 → ga V' 20 k = ga V 20 k + (if k < hm h then hdu h * (hst h k + 1) else 0)) ∧ Fr ([], [20]) V V') (hm h) ?_ ?_ (hm h) 0 ai_N () V (by omega) (N_gt (by omega)) ⟨fun k hk => by simp, Fr.rf⟩
  · rintro n _ i V1 e ⟨a1, hF⟩
    have C1 := hC.fr hF rfl
    show ∃ a' V', d_Wheel_pass_15_19_176 (n + 1) (on i) V1 = _ ∧ _
    have hin : ai_in (on i) 6 := by rw [on_in (by omega)]; omega
    rw [d_Wheel_pass_15_19_176, C1.1, if_neg (by rw [on_le (by omega) (by omega)]; omega), if_pos hin, d_House_chargeOf, if_pos hin, bd_some, if_pos hin, on_s, on_nn (by omega), C1.2.1, C1.2.2.2.1]
    refine ⟨(), _, rfl, ?_, Fr.sa hF rfl⟩
    intro k hk
    simp only [ga_sa, true_and]
    by_cases e3 : k = i
    · rw [if_pos e3, e3, a1 i (by omega), if_neg (by omega), if_pos (by omega)]; simp
    · rw [if_neg e3, a1 k hk]
      congr 1
      by_cases e4 : k < i
      · rw [if_pos e4, if_pos (by omega)]
      · rw [if_neg e4, if_neg (by omega)]
  · rintro n _ V1 ⟨a1, hF⟩
    have C1 := hC.fr hF rfl
    show ∃ c, d_Wheel_pass_15_19_176 (n + 1) (on (hm h)) V1 = _ ∧ _
    rw [d_Wheel_pass_15_19_176, C1.1, if_pos (Int32.le_refl _)]
    exact ⟨V1, rfl, a1, hF⟩
theorem pass144_19 {V : ai_V} {h : Hs} {nw : Nat} {z : Ss} (hO : HO h) (hC : CH V h) (hl : CO V 9 (ordL (hst h) (hm h))) (hz : cS z V 19) (hn : z.1 = on nw) (hnw : nw < 2147483647) :
    ∃ V', d_Wheel_pass_15_19_144 V = some V' ∧ cS (z.1 + 1, (tk h (nw % 12) (ordL (hst h) (hm h)) (z.2.1, 0)).1, fun k => z.2.2.1 k + (if q12 (z.1 + 1) = 0 ∧ k < hm h then hdu h * (hst h k + 1) else 0), fun k => z.2.2.2 k + tf ((tk h (nw % 12) (ordL (hst h) (hm h)) (z.2.1, 0)).2.testBit k = true)) V' 19 ∧
      gi V' 15 4 = on (tk h (nw % 12) (ordL (hst h) (hm h)) (z.2.1, 0)).2 ∧ gi V' 15 5 = on (popc (tk h (nw % 12) (ordL (hst h) (hm h)) (z.2.1, 0)).2) ∧ Fr ([(15, 4), (15, 5), (19, 0), (19, 1)], [20, 21]) V V' := by
  obtain ⟨z1, z2, z3⟩ := hz
  obtain ⟨V1, e1, t1, t2, t3, t4⟩ := take_19 hO hC hl (ordL_len (fun i hi => (hO.2.2 i hi).1)) (ordL_nd _ _) (fun j hj => ordL_mem hj) (by rw [z1, hn]) (by omega)
  have F1 : Fr w_Wheel_take_15_19_9 V V1 := fr_Wheel_take_15_19_9 _ _ e1
  rw [z2] at t1 t2 t3 t4
  rw [d_Wheel_pass_15_19_144, e1, bd_some, d_State_quarterNow_19]
  have g0 : gi V1 19 0 = z.1 := by rw [F1.gi 19 0 rfl, z1]
  simp only [gi_si]
  simp only [and_self, if_true, bd_some, g0]
  have q0 : z.1 + 1 - (z.1 + 1) / 12 * 12 = q12 (z.1 + 1) := rfl
  rw [q0]
  by_cases e : q12 (z.1 + 1) = 0
  · rw [if_neg (fun hn => hn e)]
    have C2 : CH (si V1 19 0 (z.1 + 1)) h := (hC.fr F1 rfl).fr (w := ([(19, 0)], [])) (Fr.si Fr.rf rfl) rfl
    obtain ⟨V2, e2, c1, F2⟩ := charge_19 hO C2
    refine ⟨V2, e2, ⟨?_, ?_, ?_⟩, ?_, ?_, Fr.tr (Fr.si (Fr.tr Fr.rf F1 rfl) rfl) F2 rfl⟩
    · rw [F2.gi 19 0 rfl]; simp only [gi_si]; simp
    · rw [F2.gi 19 1 rfl]; simp only [gi_si]; simp [t1]
    · intro k hk
      refine ⟨?_, ?_⟩
      · show ga V2 20 k = _
        rw [c1 k hk, ga_si, F1.ga 20 rfl, (z3 k hk).1]
        simp [e]
      · show ga V2 21 k = _
        rw [F2.ga 21 rfl, ga_si, t4 k hk, (z3 k hk).2]
    · rw [F2.gi 15 4 rfl]; simp only [gi_si]; simp [t2]
    · rw [F2.gi 15 5 rfl]; simp only [gi_si]; simp [t3]
  · rw [if_pos e]
    refine ⟨_, rfl, ⟨?_, ?_, ?_⟩, ?_, ?_, Fr.si (Fr.tr Fr.rf F1 rfl) rfl⟩
    · simp only [gi_si]; simp
    · simp only [gi_si]; simp [t1]
    · intro k hk
      refine ⟨?_, ?_⟩
      · show ga _ 20 k = _
        rw [ga_si, F1.ga 20 rfl, (z3 k hk).1]
        simp [e]
      · show ga _ 21 k = _
        rw [ga_si, t4 k hk, (z3 k hk).2]
    · simp only [gi_si]; simp [t2]
    · simp only [gi_si]; simp [t3]
def pV_19 (a c : Int32) (W : ai_V) : ai_V := si (si (si W 15 2 (a + c)) 15 3 (ai_max (0 : Int32) (((gi (si W 15 2 (a + c)) 19 1) + (gi (si W 15 2 (a + c)) 15 2)) - (gi (si W 15 2 (a + c)) 19 2)))) 19 1 ((gi (si (si W 15 2 (a + c)) 15 3 (ai_max (0 : Int32) (((gi (si W 15 2 (a + c)) 19 1) + (gi (si W 15 2 (a + c)) 15 2)) - (gi (si W 15 2 (a + c)) 19 2)))) 19 1) + ((gi (si (si W 15 2 (a + c)) 15 3 (ai_max (0 : Int32) (((gi (si W 15 2 (a + c)) 19 1) + (gi (si W 15 2 (a + c)) 15 2)) - (gi (si W 15 2 (a + c)) 19 2)))) 15 2) - (gi (si (si W 15 2 (a + c)) 15 3 (ai_max (0 : Int32) (((gi (si W 15 2 (a + c)) 19 1) + (gi (si W 15 2 (a + c)) 15 2)) - (gi (si W 15 2 (a + c)) 19 2)))) 15 3)))
def passT_19 (x y : Int32) (V : ai_V) : Option ai_V := (d_House_turnsOf x y V).bind fun q8 => (d_House_has x V).bind fun q9 => if q9 = 0 then d_Wheel_pass_15_19_122 y q8 V else if ai_in x 6 then if ai_in x 6 then d_Wheel_pass_15_19_122 y q8 (sa V 20 (x).toNatClampNeg ((ga V 20 (x).toNatClampNeg) - q8)) else none else none
theorem pass_unf_19 (x y : Int32) (V : ai_V) : d_Wheel_pass_15_19 x y V = (d_State_quarterNow_19 V).bind fun q5 => (d_Wheel_pails x y (gi V 19 1) q5 (gi V 3 2) V).bind fun q6 => (d_Wheel_pails y x (gi q6.2 19 1) q5 (gi q6.2 3 2) q6.2).bind fun q7 => passT_19 x y (pV_19 q6.1 q7.1 q7.2) := rfl
theorem passT_eq_19 {V : ai_V} {h : Hs} {z : Ss} {x y : Int32} {b : Nat} (hO : HO h) (hC : CH V h) (hp : pr h x y b) (hz : cS z V 19) : ∃ V4, passT_19 x y V = d_Wheel_pass_15_19_144 V4 ∧ cS (z.1, z.2.1, fun k => z.2.2.1 k - (if b.testBit k = true then tn h b else 0), z.2.2.2) V4 19 ∧ Fr ([], [20]) V V4 := by
  have h6 := hO.1
  obtain ⟨z1, z2, z3⟩ := hz
  rw [passT_19, turnsC_eq hO hC hp, bd_some, has_eq hC, bd_some]
  rcases hp with ⟨rfl, rfl, rfl⟩ | ⟨i, hi, rfl, rfl, rfl⟩ | ⟨i, j, hi, hj, hn, rfl, rfl, rfl⟩
  · rw [if_pos (tf_neg no_has), d_Wheel_pass_15_19_122, has_eq hC, bd_some, if_pos (tf_neg no_has)]
    refine ⟨V, rfl, ⟨z1, z2, fun k hk => ⟨?_, (z3 k hk).2⟩⟩, Fr.rf⟩
    rw [(z3 k hk).1]; simp
  · have hin : ai_in (on i) 6 := by rw [on_in (by omega)]; omega
    rw [if_neg (by rw [tf_pos (on_has hO hi)]; decide), if_pos hin, if_pos hin]
    have C2 : CH (sa V 20 (on i).toNatClampNeg (ga V 20 (on i).toNatClampNeg - tn h (2 ^ i))) h := hC.fr (w := ([], [20])) (Fr.sa Fr.rf rfl) rfl
    rw [d_Wheel_pass_15_19_122, has_eq C2, bd_some, if_pos (tf_neg no_has)]
    refine ⟨_, rfl, ⟨z1, z2, fun k hk => ⟨?_, ?_⟩⟩, Fr.sa Fr.rf rfl⟩
    · show ga _ 20 k = _
      simp only [ga_sa, true_and, on_nn (show i < 2147483648 by omega), tb_one i (by omega) k hk]
      by_cases e : k = i
      · rw [if_pos e, if_pos e, e, (z3 i (by omega)).1]
      · rw [if_neg e, if_neg e, (z3 k hk).1]; simp
    · show ga _ 21 k = _
      rw [ga_sa_ne (by decide)]; exact (z3 k hk).2
  · have hin : ai_in (on i) 6 := by rw [on_in (by omega)]; omega
    have hjn : ai_in (on j) 6 := by rw [on_in (by omega)]; omega
    rw [if_neg (by rw [tf_pos (on_has hO hi)]; decide), if_pos hin, if_pos hin]
    have C2 : CH (sa V 20 (on i).toNatClampNeg (ga V 20 (on i).toNatClampNeg - tn h (2 ^ i ||| 2 ^ j))) h := hC.fr (w := ([], [20])) (Fr.sa Fr.rf rfl) rfl
    rw [d_Wheel_pass_15_19_122, has_eq C2, bd_some, if_neg (by rw [tf_pos (on_has hO hj)]; decide), if_pos hjn, if_pos hjn]
    refine ⟨_, rfl, ⟨z1, z2, fun k hk => ⟨?_, ?_⟩⟩, Fr.sa (Fr.sa Fr.rf rfl) rfl⟩
    · show ga _ 20 k = _
      simp only [ga_sa, true_and, on_nn (show i < 2147483648 by omega), on_nn (show j < 2147483648 by omega), tb_two i (by omega) j (by omega) k hk]
      by_cases e : k = j
      · subst e
        rw [if_pos rfl, if_neg (fun e => hn e.symm), if_pos (Or.inr rfl), (z3 k hk).1]
      · rw [if_neg e]
        by_cases e2 : k = i
        · subst e2
          rw [if_pos rfl, if_pos (Or.inl rfl), (z3 k hk).1]
        · rw [if_neg e2, if_neg (by rintro (e' | e') <;> contradiction), (z3 k hk).1]; simp
    · show ga _ 21 k = _
      rw [ga_sa_ne (by decide), ga_sa_ne (by decide)]; exact (z3 k hk).2
theorem pass_19 {V : ai_V} {h : Hs} {f : Rf} {nw : Nat} {z : Ss} {x y rm : Int32} {b : Nat} (hO : HO h) (hC : CH V h) (hR : CR V f) (hl : CO V 9 (ordL (hst h) (hm h))) (hp : pr h x y b) (hz : cS z V 19) (hr : gi V 19 2 = rm) (hn : z.1 = on nw) (hnw : nw < 2147483647) :
    ∃ V', d_Wheel_pass_15_19 x y V = some V' ∧ cS (qz h f (ordL (hst h) (hm h)) rm b z) V' 19 ∧ gi V' 15 2 = qlif h f b z ∧ gi V' 15 3 = qovr h f rm b z ∧ gi V' 15 4 = on (qT h f (ordL (hst h) (hm h)) rm b z).2 ∧ gi V' 15 5 = on (popc (qT h f (ordL (hst h) (hm h)) rm b z).2) := by
  have h6 := hO.1
  obtain ⟨z1, z2, z3⟩ := hz
  have hq : d_State_quarterNow_19 V = some (q12 z.1) := by rw [d_State_quarterNow_19, z1]; rfl
  obtain ⟨Va, ea⟩ := pails_1 hO hC hR hp z.2.1 (q12 z.1) (hbr h)
  have Fa : Fr w_Wheel_pails V Va := fr_Wheel_pails _ _ _ _ _ _ _ ea
  have Ca := hC.fr Fa rfl
  obtain ⟨Vb, eb⟩ := pails_2 hO Ca (hR.fr Fa rfl) hp z.2.1 (q12 z.1) (hbr h)
  have Fb : Fr w_Wheel_pails V Vb := Fr.tr Fa (fr_Wheel_pails _ _ _ _ _ _ _ eb) rfl
  rw [pass_unf_19, hq, bd_some, z2, hC.2.2.1, ea, bd_some]
  show ∃ V', ((d_Wheel_pails y x (gi Va 19 1) (q12 z.1) (gi Va 3 2) Va).bind fun q7 => passT_19 x y (pV_19 (lfo h f x b z.2.1 (q12 z.1) (hbr h)) q7.1 q7.2)) = some V' ∧ _
  rw [Fa.gi 19 1 rfl, z2, Ca.2.2.1, eb, bd_some]
  show ∃ V', passT_19 x y (pV_19 (lfo h f x b z.2.1 (q12 z.1) (hbr h)) (lfo h f y b z.2.1 (q12 z.1) (hbr h)) Vb) = some V' ∧ _
  have hlif : lfo h f x b z.2.1 (q12 z.1) (hbr h) + lfo h f y b z.2.1 (q12 z.1) (hbr h) = qlif h f b z := lfo_sum hO f hp _ _ _
  generalize hV3 : pV_19 (lfo h f x b z.2.1 (q12 z.1) (hbr h)) (lfo h f y b z.2.1 (q12 z.1) (hbr h)) Vb = V3
  have F3 : Fr ([(15, 2), (15, 3), (19, 1)], []) Vb V3 := by
    rw [← hV3]; exact Fr.si (Fr.si (Fr.si Fr.rf rfl) rfl) rfl
  have b1 : gi Vb 19 1 = z.2.1 := by rw [Fb.gi 19 1 rfl, z2]
  have b2 : gi Vb 19 2 = rm := by rw [Fb.gi 19 2 rfl, hr]
  have v1 : gi V3 15 2 = qlif h f b z := by rw [← hV3, ← hlif]; simp only [pV_19, gi_si]; simp
  have v2 : gi V3 15 3 = qovr h f rm b z := by rw [← hV3, qovr, ← hlif]; simp only [pV_19, gi_si]; simp [b1, b2]
  have v3 : gi V3 19 1 = z.2.1 + (qlif h f b z - qovr h f rm b z) := by rw [← hV3, qovr, ← hlif]; simp only [pV_19, gi_si]; simp [b1, b2]
  have C3 := (hC.fr Fb rfl).fr F3 rfl
  have O3 := (hl.fr Fb rfl).fr F3 rfl
  have Z3 : cS (z.1, z.2.1 + (qlif h f b z - qovr h f rm b z), z.2.2.1, z.2.2.2) V3 19 := by
    refine ⟨?_, v3, fun k hk => ⟨?_, ?_⟩⟩
    · rw [F3.gi 19 0 rfl, Fb.gi 19 0 rfl]; exact z1
    · show ga V3 20 k = _
      rw [F3.ga 20 rfl, Fb.ga 20 rfl]; exact (z3 k hk).1
    · show ga V3 21 k = _
      rw [F3.ga 21 rfl, Fb.ga 21 rfl]; exact (z3 k hk).2
  obtain ⟨V4, e4, Z4, F4⟩ := passT_eq_19 hO C3 hp Z3
  obtain ⟨V5, e5, Z5, t4, t5, F5⟩ := pass144_19 hO (C3.fr F4 rfl) (O3.fr F4 rfl) Z4 hn hnw
  have hnn : z.1.toNatClampNeg = nw := by rw [hn, on_nn (by omega)]
  refine ⟨V5, e4.trans e5, ?_, ?_, ?_, ?_, ?_⟩
  · unfold qz qT; rw [hnn]; exact Z5
  · rw [F5.gi 15 2 rfl, F4.gi 15 2 rfl, v1]
  · rw [F5.gi 15 3 rfl, F4.gi 15 3 rfl, v2]
  · unfold qT; rw [hnn]; exact t4
  · unfold qT; rw [hnn]; exact t5

theorem charge_65 {V : ai_V} {h : Hs} (hO : HO h) (hC : CH V h) : ∃ V', d_Wheel_pass_15_65_176 ai_N (0 : Int32) V = some V' ∧ (∀ k, k < 6 → ga V' 66 k = ga V 66 k + (if k < hm h then hdu h * (hst h k + 1) else 0)) ∧ Fr ([], [66]) V V' := by
  have h6 := hO.1
  refine loop_n (fun n (_ : Unit) x V => d_Wheel_pass_15_65_176 n x V) (fun c : ai_V => some c)
    (fun i _ V1 => (∀ k, k < 6 → ga V1 66 k = ga V 66 k + (if k < i then hdu h * (hst h k + 1) else 0)) ∧ Fr ([], [66]) V V1)
    (fun V' => (∀ k, k < 6 → ga V' 66 k = ga V 66 k + (if k < hm h then hdu h * (hst h k + 1) else 0)) ∧ Fr ([], [66]) V V') (hm h) ?_ ?_ (hm h) 0 ai_N () V (by omega) (N_gt (by omega)) ⟨fun k hk => by simp, Fr.rf⟩
  · rintro n _ i V1 e ⟨a1, hF⟩
    have C1 := hC.fr hF rfl
    show ∃ a' V', d_Wheel_pass_15_65_176 (n + 1) (on i) V1 = _ ∧ _
    have hin : ai_in (on i) 6 := by rw [on_in (by omega)]; omega
    rw [d_Wheel_pass_15_65_176, C1.1, if_neg (by rw [on_le (by omega) (by omega)]; omega), if_pos hin, d_House_chargeOf, if_pos hin, bd_some, if_pos hin, on_s, on_nn (by omega), C1.2.1, C1.2.2.2.1]
    refine ⟨(), _, rfl, ?_, Fr.sa hF rfl⟩
    intro k hk
    simp only [ga_sa, true_and]
    by_cases e3 : k = i
    · rw [if_pos e3, e3, a1 i (by omega), if_neg (by omega), if_pos (by omega)]; simp
    · rw [if_neg e3, a1 k hk]
      congr 1
      by_cases e4 : k < i
      · rw [if_pos e4, if_pos (by omega)]
      · rw [if_neg e4, if_neg (by omega)]
  · rintro n _ V1 ⟨a1, hF⟩
    have C1 := hC.fr hF rfl
    show ∃ c, d_Wheel_pass_15_65_176 (n + 1) (on (hm h)) V1 = _ ∧ _
    rw [d_Wheel_pass_15_65_176, C1.1, if_pos (Int32.le_refl _)]
    exact ⟨V1, rfl, a1, hF⟩
theorem pass144_65 {V : ai_V} {h : Hs} {nw : Nat} {z : Ss} (hO : HO h) (hC : CH V h) (hl : CO V 9 (ordL (hst h) (hm h))) (hz : cS z V 65) (hn : z.1 = on nw) (hnw : nw < 2147483647) :
    ∃ V', d_Wheel_pass_15_65_144 V = some V' ∧ cS (z.1 + 1, (tk h (nw % 12) (ordL (hst h) (hm h)) (z.2.1, 0)).1, fun k => z.2.2.1 k + (if q12 (z.1 + 1) = 0 ∧ k < hm h then hdu h * (hst h k + 1) else 0), fun k => z.2.2.2 k + tf ((tk h (nw % 12) (ordL (hst h) (hm h)) (z.2.1, 0)).2.testBit k = true)) V' 65 ∧
      gi V' 15 4 = on (tk h (nw % 12) (ordL (hst h) (hm h)) (z.2.1, 0)).2 ∧ gi V' 15 5 = on (popc (tk h (nw % 12) (ordL (hst h) (hm h)) (z.2.1, 0)).2) ∧ Fr ([(15, 4), (15, 5), (65, 0), (65, 1)], [66, 67]) V V' := by
  obtain ⟨z1, z2, z3⟩ := hz
  obtain ⟨V1, e1, t1, t2, t3, t4⟩ := take_65 hO hC hl (ordL_len (fun i hi => (hO.2.2 i hi).1)) (ordL_nd _ _) (fun j hj => ordL_mem hj) (by rw [z1, hn]) (by omega)
  have F1 : Fr w_Wheel_take_15_65_9 V V1 := fr_Wheel_take_15_65_9 _ _ e1
  rw [z2] at t1 t2 t3 t4
  rw [d_Wheel_pass_15_65_144, e1, bd_some, d_State_quarterNow_65]
  have g0 : gi V1 65 0 = z.1 := by rw [F1.gi 65 0 rfl, z1]
  simp only [gi_si]
  simp only [and_self, if_true, bd_some, g0]
  have q0 : z.1 + 1 - (z.1 + 1) / 12 * 12 = q12 (z.1 + 1) := rfl
  rw [q0]
  by_cases e : q12 (z.1 + 1) = 0
  · rw [if_neg (fun hn => hn e)]
    have C2 : CH (si V1 65 0 (z.1 + 1)) h := (hC.fr F1 rfl).fr (w := ([(65, 0)], [])) (Fr.si Fr.rf rfl) rfl
    obtain ⟨V2, e2, c1, F2⟩ := charge_65 hO C2
    refine ⟨V2, e2, ⟨?_, ?_, ?_⟩, ?_, ?_, Fr.tr (Fr.si (Fr.tr Fr.rf F1 rfl) rfl) F2 rfl⟩
    · rw [F2.gi 65 0 rfl]; simp only [gi_si]; simp
    · rw [F2.gi 65 1 rfl]; simp only [gi_si]; simp [t1]
    · intro k hk
      refine ⟨?_, ?_⟩
      · show ga V2 66 k = _
        rw [c1 k hk, ga_si, F1.ga 66 rfl, (z3 k hk).1]
        simp [e]
      · show ga V2 67 k = _
        rw [F2.ga 67 rfl, ga_si, t4 k hk, (z3 k hk).2]
    · rw [F2.gi 15 4 rfl]; simp only [gi_si]; simp [t2]
    · rw [F2.gi 15 5 rfl]; simp only [gi_si]; simp [t3]
  · rw [if_pos e]
    refine ⟨_, rfl, ⟨?_, ?_, ?_⟩, ?_, ?_, Fr.si (Fr.tr Fr.rf F1 rfl) rfl⟩
    · simp only [gi_si]; simp
    · simp only [gi_si]; simp [t1]
    · intro k hk
      refine ⟨?_, ?_⟩
      · show ga _ 66 k = _
        rw [ga_si, F1.ga 66 rfl, (z3 k hk).1]
        simp [e]
      · show ga _ 67 k = _
        rw [ga_si, t4 k hk, (z3 k hk).2]
    · simp only [gi_si]; simp [t2]
    · simp only [gi_si]; simp [t3]
def pV_65 (a c : Int32) (W : ai_V) : ai_V := si (si (si W 15 2 (a + c)) 15 3 (ai_max (0 : Int32) (((gi (si W 15 2 (a + c)) 65 1) + (gi (si W 15 2 (a + c)) 15 2)) - (gi (si W 15 2 (a + c)) 65 2)))) 65 1 ((gi (si (si W 15 2 (a + c)) 15 3 (ai_max (0 : Int32) (((gi (si W 15 2 (a + c)) 65 1) + (gi (si W 15 2 (a + c)) 15 2)) - (gi (si W 15 2 (a + c)) 65 2)))) 65 1) + ((gi (si (si W 15 2 (a + c)) 15 3 (ai_max (0 : Int32) (((gi (si W 15 2 (a + c)) 65 1) + (gi (si W 15 2 (a + c)) 15 2)) - (gi (si W 15 2 (a + c)) 65 2)))) 15 2) - (gi (si (si W 15 2 (a + c)) 15 3 (ai_max (0 : Int32) (((gi (si W 15 2 (a + c)) 65 1) + (gi (si W 15 2 (a + c)) 15 2)) - (gi (si W 15 2 (a + c)) 65 2)))) 15 3)))
def passT_65 (x y : Int32) (V : ai_V) : Option ai_V := (d_House_turnsOf x y V).bind fun q8 => (d_House_has x V).bind fun q9 => if q9 = 0 then d_Wheel_pass_15_65_122 y q8 V else if ai_in x 6 then if ai_in x 6 then d_Wheel_pass_15_65_122 y q8 (sa V 66 (x).toNatClampNeg ((ga V 66 (x).toNatClampNeg) - q8)) else none else none
theorem pass_unf_65 (x y : Int32) (V : ai_V) : d_Wheel_pass_15_65 x y V = (d_State_quarterNow_65 V).bind fun q5 => (d_Wheel_pails x y (gi V 65 1) q5 (gi V 3 2) V).bind fun q6 => (d_Wheel_pails y x (gi q6.2 65 1) q5 (gi q6.2 3 2) q6.2).bind fun q7 => passT_65 x y (pV_65 q6.1 q7.1 q7.2) := rfl
theorem passT_eq_65 {V : ai_V} {h : Hs} {z : Ss} {x y : Int32} {b : Nat} (hO : HO h) (hC : CH V h) (hp : pr h x y b) (hz : cS z V 65) : ∃ V4, passT_65 x y V = d_Wheel_pass_15_65_144 V4 ∧ cS (z.1, z.2.1, fun k => z.2.2.1 k - (if b.testBit k = true then tn h b else 0), z.2.2.2) V4 65 ∧ Fr ([], [66]) V V4 := by
  have h6 := hO.1
  obtain ⟨z1, z2, z3⟩ := hz
  rw [passT_65, turnsC_eq hO hC hp, bd_some, has_eq hC, bd_some]
  rcases hp with ⟨rfl, rfl, rfl⟩ | ⟨i, hi, rfl, rfl, rfl⟩ | ⟨i, j, hi, hj, hn, rfl, rfl, rfl⟩
  · rw [if_pos (tf_neg no_has), d_Wheel_pass_15_65_122, has_eq hC, bd_some, if_pos (tf_neg no_has)]
    refine ⟨V, rfl, ⟨z1, z2, fun k hk => ⟨?_, (z3 k hk).2⟩⟩, Fr.rf⟩
    rw [(z3 k hk).1]; simp
  · have hin : ai_in (on i) 6 := by rw [on_in (by omega)]; omega
    rw [if_neg (by rw [tf_pos (on_has hO hi)]; decide), if_pos hin, if_pos hin]
    have C2 : CH (sa V 66 (on i).toNatClampNeg (ga V 66 (on i).toNatClampNeg - tn h (2 ^ i))) h := hC.fr (w := ([], [66])) (Fr.sa Fr.rf rfl) rfl
    rw [d_Wheel_pass_15_65_122, has_eq C2, bd_some, if_pos (tf_neg no_has)]
    refine ⟨_, rfl, ⟨z1, z2, fun k hk => ⟨?_, ?_⟩⟩, Fr.sa Fr.rf rfl⟩
    · show ga _ 66 k = _
      simp only [ga_sa, true_and, on_nn (show i < 2147483648 by omega), tb_one i (by omega) k hk]
      by_cases e : k = i
      · rw [if_pos e, if_pos e, e, (z3 i (by omega)).1]
      · rw [if_neg e, if_neg e, (z3 k hk).1]; simp
    · show ga _ 67 k = _
      rw [ga_sa_ne (by decide)]; exact (z3 k hk).2
  · have hin : ai_in (on i) 6 := by rw [on_in (by omega)]; omega
    have hjn : ai_in (on j) 6 := by rw [on_in (by omega)]; omega
    rw [if_neg (by rw [tf_pos (on_has hO hi)]; decide), if_pos hin, if_pos hin]
    have C2 : CH (sa V 66 (on i).toNatClampNeg (ga V 66 (on i).toNatClampNeg - tn h (2 ^ i ||| 2 ^ j))) h := hC.fr (w := ([], [66])) (Fr.sa Fr.rf rfl) rfl
    rw [d_Wheel_pass_15_65_122, has_eq C2, bd_some, if_neg (by rw [tf_pos (on_has hO hj)]; decide), if_pos hjn, if_pos hjn]
    refine ⟨_, rfl, ⟨z1, z2, fun k hk => ⟨?_, ?_⟩⟩, Fr.sa (Fr.sa Fr.rf rfl) rfl⟩
    · show ga _ 66 k = _
      simp only [ga_sa, true_and, on_nn (show i < 2147483648 by omega), on_nn (show j < 2147483648 by omega), tb_two i (by omega) j (by omega) k hk]
      by_cases e : k = j
      · subst e
        rw [if_pos rfl, if_neg (fun e => hn e.symm), if_pos (Or.inr rfl), (z3 k hk).1]
      · rw [if_neg e]
        by_cases e2 : k = i
        · subst e2
          rw [if_pos rfl, if_pos (Or.inl rfl), (z3 k hk).1]
        · rw [if_neg e2, if_neg (by rintro (e' | e') <;> contradiction), (z3 k hk).1]; simp
    · show ga _ 67 k = _
      rw [ga_sa_ne (by decide), ga_sa_ne (by decide)]; exact (z3 k hk).2
theorem pass_65 {V : ai_V} {h : Hs} {f : Rf} {nw : Nat} {z : Ss} {x y rm : Int32} {b : Nat} (hO : HO h) (hC : CH V h) (hR : CR V f) (hl : CO V 9 (ordL (hst h) (hm h))) (hp : pr h x y b) (hz : cS z V 65) (hr : gi V 65 2 = rm) (hn : z.1 = on nw) (hnw : nw < 2147483647) :
    ∃ V', d_Wheel_pass_15_65 x y V = some V' ∧ cS (qz h f (ordL (hst h) (hm h)) rm b z) V' 65 ∧ gi V' 15 2 = qlif h f b z ∧ gi V' 15 3 = qovr h f rm b z ∧ gi V' 15 4 = on (qT h f (ordL (hst h) (hm h)) rm b z).2 ∧ gi V' 15 5 = on (popc (qT h f (ordL (hst h) (hm h)) rm b z).2) := by
  have h6 := hO.1
  obtain ⟨z1, z2, z3⟩ := hz
  have hq : d_State_quarterNow_65 V = some (q12 z.1) := by rw [d_State_quarterNow_65, z1]; rfl
  obtain ⟨Va, ea⟩ := pails_1 hO hC hR hp z.2.1 (q12 z.1) (hbr h)
  have Fa : Fr w_Wheel_pails V Va := fr_Wheel_pails _ _ _ _ _ _ _ ea
  have Ca := hC.fr Fa rfl
  obtain ⟨Vb, eb⟩ := pails_2 hO Ca (hR.fr Fa rfl) hp z.2.1 (q12 z.1) (hbr h)
  have Fb : Fr w_Wheel_pails V Vb := Fr.tr Fa (fr_Wheel_pails _ _ _ _ _ _ _ eb) rfl
  rw [pass_unf_65, hq, bd_some, z2, hC.2.2.1, ea, bd_some]
  show ∃ V', ((d_Wheel_pails y x (gi Va 65 1) (q12 z.1) (gi Va 3 2) Va).bind fun q7 => passT_65 x y (pV_65 (lfo h f x b z.2.1 (q12 z.1) (hbr h)) q7.1 q7.2)) = some V' ∧ _
  rw [Fa.gi 65 1 rfl, z2, Ca.2.2.1, eb, bd_some]
  show ∃ V', passT_65 x y (pV_65 (lfo h f x b z.2.1 (q12 z.1) (hbr h)) (lfo h f y b z.2.1 (q12 z.1) (hbr h)) Vb) = some V' ∧ _
  have hlif : lfo h f x b z.2.1 (q12 z.1) (hbr h) + lfo h f y b z.2.1 (q12 z.1) (hbr h) = qlif h f b z := lfo_sum hO f hp _ _ _
  generalize hV3 : pV_65 (lfo h f x b z.2.1 (q12 z.1) (hbr h)) (lfo h f y b z.2.1 (q12 z.1) (hbr h)) Vb = V3
  have F3 : Fr ([(15, 2), (15, 3), (65, 1)], []) Vb V3 := by
    rw [← hV3]; exact Fr.si (Fr.si (Fr.si Fr.rf rfl) rfl) rfl
  have b1 : gi Vb 65 1 = z.2.1 := by rw [Fb.gi 65 1 rfl, z2]
  have b2 : gi Vb 65 2 = rm := by rw [Fb.gi 65 2 rfl, hr]
  have v1 : gi V3 15 2 = qlif h f b z := by rw [← hV3, ← hlif]; simp only [pV_65, gi_si]; simp
  have v2 : gi V3 15 3 = qovr h f rm b z := by rw [← hV3, qovr, ← hlif]; simp only [pV_65, gi_si]; simp [b1, b2]
  have v3 : gi V3 65 1 = z.2.1 + (qlif h f b z - qovr h f rm b z) := by rw [← hV3, qovr, ← hlif]; simp only [pV_65, gi_si]; simp [b1, b2]
  have C3 := (hC.fr Fb rfl).fr F3 rfl
  have O3 := (hl.fr Fb rfl).fr F3 rfl
  have Z3 : cS (z.1, z.2.1 + (qlif h f b z - qovr h f rm b z), z.2.2.1, z.2.2.2) V3 65 := by
    refine ⟨?_, v3, fun k hk => ⟨?_, ?_⟩⟩
    · rw [F3.gi 65 0 rfl, Fb.gi 65 0 rfl]; exact z1
    · show ga V3 66 k = _
      rw [F3.ga 66 rfl, Fb.ga 66 rfl]; exact (z3 k hk).1
    · show ga V3 67 k = _
      rw [F3.ga 67 rfl, Fb.ga 67 rfl]; exact (z3 k hk).2
  obtain ⟨V4, e4, Z4, F4⟩ := passT_eq_65 hO C3 hp Z3
  obtain ⟨V5, e5, Z5, t4, t5, F5⟩ := pass144_65 hO (C3.fr F4 rfl) (O3.fr F4 rfl) Z4 hn hnw
  have hnn : z.1.toNatClampNeg = nw := by rw [hn, on_nn (by omega)]
  refine ⟨V5, e4.trans e5, ?_, ?_, ?_, ?_, ?_⟩
  · unfold qz qT; rw [hnn]; exact Z5
  · rw [F5.gi 15 2 rfl, F4.gi 15 2 rfl, v1]
  · rw [F5.gi 15 3 rfl, F4.gi 15 3 rfl, v2]
  · unfold qT; rw [hnn]; exact t4
  · unfold qT; rw [hnn]; exact t5

