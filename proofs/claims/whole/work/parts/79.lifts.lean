/-! ===== lifts, strongest, step, enough ===== -/
theorem clp_rng (x : Int32) : 0 ≤ (clp x).toInt ∧ (clp x).toInt ≤ 99 := by
  unfold clp
  rw [ai_max_ti, ai_min_ti]
  have e0 : (0 : Int32).toInt = 0 := rfl
  have e9 : (99 : Int32).toInt = 99 := rfl
  omega
theorem lf_rng (h : Hs) (f : Rf) (i b : Nat) (lv q br : Int32) : 0 ≤ (lf h f i b lv q br).toInt ∧ (lf h f i b lv q br).toInt ≤ 99 := by
  unfold lf
  by_cases e : bt br (on i)
  · rw [if_pos e]; decide
  · rw [if_neg e]; exact clp_rng _
theorem qlif_1 {h : Hs} (hO : HO h) (f : Rf) {i : Nat} (hi : i < hm h) (z : Ss) : 0 ≤ (qlif h f (2 ^ i) z).toInt ∧ (qlif h f (2 ^ i) z).toInt ≤ 99 := by
  rw [qlif, LA_one hO f hi]; exact lf_rng _ _ _ _ _ _ _
theorem qlif_2 {h : Hs} (hO : HO h) (f : Rf) {i j : Nat} (hi : i < hm h) (hj : j < hm h) (hn : i ≠ j) (z : Ss) : 0 ≤ (qlif h f (2 ^ i ||| 2 ^ j) z).toInt ∧ (qlif h f (2 ^ i ||| 2 ^ j) z).toInt ≤ 198 := by
  rw [qlif, LA_two hO f hi hj hn]
  have a := lf_rng h f i (2 ^ i ||| 2 ^ j) z.2.1 (q12 z.1) (hbr h)
  have b := lf_rng h f j (2 ^ i ||| 2 ^ j) z.2.1 (q12 z.1) (hbr h)
  rw [ti_add (by omega) (by omega)]; omega
theorem pn_1 {V : ai_V} {h : Hs} {f : Rf} {z : Ss} {x y : Int32} {b : Nat} (K : KC V h f) (hz : cS z V 16) (hp : pr h x y b) : ∃ V', d_Wheel_pailsNow x y V = some (lfo h f x b z.2.1 (q12 z.1) (hbr h), V') ∧ Fr w_Wheel_pails V V' := by
  obtain ⟨V1, e1⟩ := pails_1 K.1 K.2.1 K.2.2.1 hp z.2.1 (q12 z.1) (hbr h)
  refine ⟨V1, ?_, fr_Wheel_pails _ _ _ _ _ _ _ e1⟩
  have hq : d_State_quarterNow V = some (q12 z.1) := by rw [d_State_quarterNow, hz.1]; rfl
  rw [d_Wheel_pailsNow, hq, bd_some, hz.2.1, K.2.1.2.2.1, e1]; rfl
theorem pn_2 {V : ai_V} {h : Hs} {f : Rf} {z : Ss} {x y : Int32} {b : Nat} (K : KC V h f) (hz : cS z V 16) (hp : pr h x y b) : ∃ V', d_Wheel_pailsNow y x V = some (lfo h f y b z.2.1 (q12 z.1) (hbr h), V') ∧ Fr w_Wheel_pails V V' := by
  obtain ⟨V1, e1⟩ := pails_2 K.1 K.2.1 K.2.2.1 hp z.2.1 (q12 z.1) (hbr h)
  refine ⟨V1, ?_, fr_Wheel_pails _ _ _ _ _ _ _ e1⟩
  have hq : d_State_quarterNow V = some (q12 z.1) := by rw [d_State_quarterNow, hz.1]; rfl
  rw [d_Wheel_pailsNow, hq, bd_some, hz.2.1, K.2.1.2.2.1, e1]; rfl
theorem tog_1 {V : ai_V} {h : Hs} {f : Rf} {z : Ss} {x y : Int32} {b : Nat} (K : KC V h f) (hz : cS z V 16) (hp : pr h x y b) : ∃ V', d_Wheel_together x y V = some (qlif h f b z, V') ∧ Fr w_Wheel_pails V V' := by
  obtain ⟨V1, e1, F1⟩ := pn_1 K hz hp
  obtain ⟨V2, e2, F2⟩ := pn_2 (K.fr F1 rfl) (hz.fr F1 rfl rfl rfl rfl) hp
  refine ⟨V2, ?_, Fr.tr F1 F2 rfl⟩
  rw [d_Wheel_together, e1, bd_some]
  show (d_Wheel_pailsNow y x V1).bind _ = _
  rw [e2, bd_some, qlif, ← lfo_sum K.1 f hp]
theorem tog_2 {V : ai_V} {h : Hs} {f : Rf} {z : Ss} {x y : Int32} {b : Nat} (K : KC V h f) (hz : cS z V 16) (hp : pr h x y b) : ∃ V', d_Wheel_together y x V = some (qlif h f b z, V') ∧ Fr w_Wheel_pails V V' := by
  obtain ⟨V1, e1, F1⟩ := pn_2 K hz hp
  obtain ⟨V2, e2, F2⟩ := pn_1 (K.fr F1 rfl) (hz.fr F1 rfl rfl rfl rfl) hp
  refine ⟨V2, ?_, Fr.tr F1 F2 rfl⟩
  rw [d_Wheel_together, e1, bd_some]
  show (d_Wheel_pailsNow x y V1).bind _ = _
  rw [e2, bd_some, qlif, ← lfo_sum K.1 f hp, Int32.add_comm]
theorem mn_eq {V : ai_V} {h : Hs} {f : Rf} {z : Ss} {b : Nat} (K : KM V h f) (hz : mS z V 90 0) (hb : b < 64) : ∃ V', d_M_liftNow (on b) V = some (qlif h f b z, V') ∧ Fr w_M_liftNow V V' := by
  obtain ⟨V1, e1⟩ := liftNow_eq K.1 K.2.1 K.2.2.1 hb
  have F1 := fr_M_liftNow _ _ _ e1
  obtain ⟨z1, z2, -⟩ := hz
  rw [Nat.zero_add] at z1 z2
  rw [z1, z2] at e1
  exact ⟨V1, e1, F1⟩
theorem or_pw : ∀ i, i < 6 → ∀ j, j < 6 → ((1 : Int32) <<< (on i &&& 31)) ||| ((1 : Int32) <<< (on j &&& 31)) = on (2 ^ i ||| 2 ^ j) := by decide +kernel
theorem or_pw0 : ∀ i, i < 6 → ((1 : Int32) <<< (on i &&& 31)) ||| (0 : Int32) = on (2 ^ i) := by decide +kernel
/-! lifts -/
theorem st_lifts {N : Nat} {V : ai_V} (hI : Inv N V) (hN : N < 512) (x y : Int32) : Step N V (d_X_lifts x y) (d_M_lifts x y) := by
  obtain ⟨h, f, z, rm, nw, kc, km, hS, hn, hb⟩ := hI.k
  have hO := kc.1
  have h6 := hO.1
  have hz := hS.2.1
  by_cases hx : (0 ≤ x ∧ x < on (hm h)) ∧ (y = -1 ∨ ((0 ≤ y ∧ y < on (hm h)) ∧ x ≠ y))
  · obtain ⟨hx1, hy1⟩ := hx
    obtain ⟨i, hi, rfl⟩ := has_on hO hx1
    have hne : on i ≠ -1 := on_ne_m1 (by omega)
    have hcan : canT h (on i) y := by
      unfold canT
      rw [if_neg hne]
      refine ⟨hx1, ?_, ?_⟩
      · rcases hy1 with rfl | ⟨-, q⟩
        · exact hne
        · exact q
      · rcases hy1 with q | ⟨q, -⟩
        · exact Or.inl q
        · exact Or.inr q
    obtain ⟨b, hp⟩ := canT_pr hO hcan
    have h64 := hp.lt hO
    obtain ⟨Va, ea, Fa⟩ := pn_2 kc hz hp
    obtain ⟨Vb, eb, cb, Fb⟩ := tell2 (tn h b).toInt64 (lfo h f y b z.2.1 (q12 z.1) (hbr h)).toInt64 Va
    have Fab : Fr ([(22, 1)], [12, 13, 23]) V Vb := Fr.tr (Fr.tr Fr.rf Fa rfl) Fb rfl
    obtain ⟨Vc, ec, Fc⟩ := pn_1 (kc.fr Fab rfl) (hz.fr Fab rfl rfl rfl rfl) hp
    have cc := cb.fr Fc rfl
    have e1 : d_X_lifts (on i) y V = some (lfo h f (on i) b z.2.1 (q12 z.1) (hbr h), Vc) := by
      rw [d_X_lifts, if_neg hne]
      rcases canTread_eq hO kc.2.1 (on i) y with ⟨q, -⟩ | ⟨-, q⟩
      · rw [q, bd_some, if_pos (by decide), turnsC_eq hO kc.2.1 hp, bd_some, ea, bd_some]
        show (d_Row_tellTwo (tn h b).toInt64 (lfo h f y b z.2.1 (q12 z.1) (hbr h)).toInt64 Va).bind _ = _
        rw [eb, bd_some, ec]; rfl
      · exact absurd hcan q
    have F1 : Fr w_X_lifts V Vc := fr_X_lifts _ _ _ _ e1
    have K1 := km.fr F1 rfl
    have z1 := hS.2.2.1.fr F1 rfl
    -- the model
    have K2 := K1.s14 0
    have hlift : ∀ (V0 : ai_V) (k : Nat), KM V0 h f → mS z V0 90 0 → k < hm h → ∃ V', d_M_liftOf (on k) (on b) (ga V0 90 ((12 : Int32)).toNatClampNeg) (ga V0 90 ((13 : Int32)).toNatClampNeg) (gi V0 89 7) V0 = some (lf h f k b z.2.1 (q12 z.1) (hbr h), V') ∧ Fr w_M_liftOf V0 V' := by
      intro V0 k K0 hz0 hk
      obtain ⟨q1, q2, -⟩ := hz0
      rw [Nat.zero_add] at q1 q2
      obtain ⟨V', e'⟩ := liftOf_eq K0.1 K0.2.1 K0.2.2.1 hk h64 z.2.1 z.1 (hbr h)
      refine ⟨V', ?_, fr_M_liftOf _ _ _ _ _ _ _ e'⟩
      rw [show ((12 : Int32)).toNatClampNeg = 12 from rfl, show ((13 : Int32)).toNatClampNeg = 13 from rfl, q1, q2, K0.2.1.2.2.1]; exact e'
    have hM : ∀ s0 : Int32, ((1 : Int32) <<< (on i &&& 31)) ||| s0 = on b → ∃ V2, d_M_lifts_44 (on i) y s0 ((1 : Int32) <<< (on i &&& 31)) (si Vc 89 14 0) = some (lfo h f (on i) b z.2.1 (q12 z.1) (hbr h), V2) ∧ mRow V2 [(tn h b).toInt64, (lfo h f y b z.2.1 (q12 z.1) (hbr h)).toInt64] := by
      intro s0 hs0
      have K3 : KM (si (si Vc 89 14 0) 89 13 0) h f := K2.fr (w := ([(89, 13)], [])) (Fr.si Fr.rf rfl) rfl
      have z3 : mS z (si (si Vc 89 14 0) 89 13 0) 90 0 := z1.fr (w := ([(89, 14), (89, 13)], [])) (Fr.si (Fr.si Fr.rf rfl) rfl) rfl
      rw [d_M_lifts_44, hs0, turnsM_eq hO K3.2.1 h64, bd_some]
      obtain ⟨W1, g1, r1, G1⟩ := m_tell (m_row0 (si Vc 89 14 0)) (by simp) (tn h b).toInt64
      have K4 := K3.fr G1 rfl
      have z4 := z3.fr G1 rfl
      have last : ∀ W2, KM W2 h f → mS z W2 90 0 → mRow W2 ([] ++ [(tn h b).toInt64]) → ∀ u : Int64, ∃ V2, d_M_lifts_96 (on i) (on b) u W2 = some (lfo h f (on i) b z.2.1 (q12 z.1) (hbr h), V2) ∧ mRow V2 [(tn h b).toInt64, u] := by
        intro W2 K5 z5 r2 u
        obtain ⟨W3, g3, r3, G3⟩ := m_tell r2 (by simp) u
        obtain ⟨W4, g4, G4⟩ := hlift W3 i (K5.fr G3 rfl) (z5.fr G3 rfl) hi
        refine ⟨W4, ?_, r3.fr G4 rfl⟩
        rw [d_M_lifts_96, g3, bd_some, g4, lfo, if_neg hne, on_nn (by omega)]; rfl
      rw [g1, bd_some]
      by_cases ey : y = -1
      · have ey0 : lfo h f y b z.2.1 (q12 z.1) (hbr h) = 0 := if_pos ey
        rw [if_neg (fun hn => hn ey), ey0]
        exact last W1 K4 z4 r1 _
      · rw [if_pos ey]
        have hy2 : (0 ≤ y ∧ y < on (hm h)) ∧ on i ≠ y := hy1.resolve_left ey
        obtain ⟨j, hj, rfl⟩ := has_on hO hy2.1
        obtain ⟨W2, g2, G2⟩ := hlift W1 j K4 z4 hj
        rw [g2, bd_some]
        obtain ⟨V2, a1, a2⟩ := last W2 (K4.fr G2 rfl) (z4.fr G2 rfl) (r1.fr G2 rfl) (lf h f j b z.2.1 (q12 z.1) (hbr h)).toInt64
        refine ⟨V2, a1, ?_⟩
        have ey1 : lfo h f (on j) b z.2.1 (q12 z.1) (hbr h) = lf h f j b z.2.1 (q12 z.1) (hbr h) := by rw [lfo, if_neg ey, on_nn (by omega)]
        rw [ey1]; exact a2
    have e2' : ∃ V2, d_M_lifts_29 (on i) y (si Vc 89 14 0) = some (lfo h f (on i) b z.2.1 (q12 z.1) (hbr h), V2) ∧ mRow V2 [(tn h b).toInt64, (lfo h f y b z.2.1 (q12 z.1) (hbr h)).toInt64] := by
      rw [d_M_lifts_29]
      rcases hp with ⟨q, -, -⟩ | ⟨k, hk, q, rfl, rfl⟩ | ⟨k, j, hk, hj, hkj, q, rfl, rfl⟩
      · exact absurd q hne
      · rw [on_inj (by omega) (by omega)] at q
        subst q
        rw [if_neg (fun hn => hn rfl)]
        exact hM 0 (or_pw0 i (by omega))
      · rw [on_inj (by omega) (by omega)] at q
        subst q
        rw [if_pos (on_ne_m1 (by omega))]
        exact hM _ (or_pw i (by omega) j (by omega))
    obtain ⟨V2, e2, c2⟩ := e2'
    have e3 : d_M_lifts (on i) y Vc = some (lfo h f (on i) b z.2.1 (q12 z.1) (hbr h), V2) := by
      rw [d_M_lifts, isOne_eq hO K2.2.1, bd_some, if_neg (by rw [tf_pos hx1]; decide)]
      rcases hy1 with q | q
      · rw [if_pos q]; exact e2
      · by_cases ey : y = -1
        · rw [if_pos ey]; exact e2
        · rw [if_neg ey, areTwo_eq hO K2.2.1, bd_some, if_pos (by rw [tf_pos ⟨hx1, q.1, q.2⟩]; decide)]; exact e2
    have F2 : Fr w_M_lifts Vc V2 := fr_M_lifts _ _ _ _ e3
    exact ⟨_, Vc, V2, e1, e3, hI.qq F1 F2 rfl rfl rfl rfl (o := some _) (fun r hr => by obtain rfl := Option.some.inj hr; simp) cc c2 (hI.x.fr2 F1 F2 rfl rfl)⟩
  · refine ⟨-1, V, si V 89 14 0, ?_, ?_, hI.no 0⟩
    · rw [d_X_lifts]
      by_cases e : x = -1
      · rw [if_pos e]
      · rw [if_neg e]
        rcases canTread_eq hO kc.2.1 x y with ⟨-, q⟩ | ⟨q, -⟩
        · unfold canT at q
          rw [if_neg e] at q
          refine absurd ⟨q.1, ?_⟩ hx
          rcases q.2.2 with q2 | q2
          · exact Or.inl q2
          · exact Or.inr ⟨q2, q.2.1⟩
        · rw [q, bd_some, if_neg (fun hn => hn rfl)]
    · rw [d_M_lifts, isOne_eq hO (km.s14 0).2.1, bd_some]
      by_cases h1 : 0 ≤ x ∧ x < on (hm h)
      · rw [if_neg (by rw [tf_pos h1]; decide), if_neg (fun e => hx ⟨h1, Or.inl e⟩), areTwo_eq hO (km.s14 0).2.1, bd_some, if_neg (fun hn => hn (tf_neg (fun q => hx ⟨h1, Or.inr ⟨q.2.1, q.2.2⟩⟩)))]
      · rw [if_pos (tf_neg h1)]
/-! the best of some -/
def ob (d : Int32) : Option Nat → Int32
  | none => d
  | some k => on k
def mo (L : Nat → Int32) : Option Nat → Int32
  | none => -1
  | some k => L k
def sbS (L : Nat → Int32) (p : Nat → Prop) [DecidablePred p] (i : Nat) (o : Option Nat) : Option Nat := if p i then (match o with
  | none => some i
  | some k => if L i ≤ L k then some k else some i) else o
def sb (L : Nat → Int32) (p : Nat → Prop) [DecidablePred p] (m : Nat) : Option Nat := fo (sbS L p) m 0 none
theorem sb_s (L : Nat → Int32) (p : Nat → Prop) [DecidablePred p] (m : Nat) : sb L p (m + 1) = sbS L p m (sb L p m) := by
  unfold sb; rw [fo_s, Nat.zero_add]
theorem sb_some {L : Nat → Int32} {p : Nat → Prop} [DecidablePred p] : ∀ {m : Nat}, (∀ k, sb L p m = some k → k < m ∧ p k) ∧ ((∃ j, j < m ∧ p j) → sb L p m ≠ none) := by
  intro m
  induction m with
  | zero => exact ⟨(fun k h => nomatch h), (fun ⟨j, hj, _⟩ => absurd hj (by omega))⟩
  | succ m ih =>
    rw [sb_s]
    unfold sbS
    by_cases e : p m
    · rw [if_pos e]
      cases es : sb L p m with
      | none => exact ⟨(fun k h => by obtain rfl := Option.some.inj h; exact ⟨by omega, e⟩), (fun _ h => nomatch h)⟩
      | some k0 =>
        simp only
        obtain ⟨q1, q2⟩ := ih.1 k0 es
        by_cases e2 : L m ≤ L k0
        · rw [if_pos e2]; exact ⟨(fun k h => by obtain rfl := Option.some.inj h; exact ⟨by omega, q2⟩), (fun _ h => nomatch h)⟩
        · rw [if_neg e2]; exact ⟨(fun k h => by obtain rfl := Option.some.inj h; exact ⟨by omega, e⟩), (fun _ h => nomatch h)⟩
    · rw [if_neg e]
      refine ⟨fun k h => ⟨by have := (ih.1 k h).1; omega, (ih.1 k h).2⟩, fun ⟨j, hj, hp⟩ => ih.2 ⟨j, ?_, hp⟩⟩
      by_cases ej : j = m
      · subst ej; exact absurd hp e
      · omega
/-- the class's step -/
theorem sb_C {L : Nat → Int32} {p : Nat → Prop} [DecidablePred p] {i : Nat} {o : Option Nat} (hL : ∀ k, o = some k → 0 ≤ (L k).toInt) (hi : p i → 0 ≤ (L i).toInt) : ((if p i then L i else -1) ≤ mo L o → sbS L p i o = o) ∧ (¬ (if p i then L i else -1) ≤ mo L o → p i ∧ sbS L p i o = some i) := by
  unfold sbS
  by_cases e : p i
  · rw [if_pos e, if_pos e]
    cases o with
    | none =>
      refine ⟨fun h => ?_, fun _ => ⟨e, rfl⟩⟩
      have := hi e
      simp only [mo] at h
      rw [ti_le] at h
      have e1 : (-1 : Int32).toInt = -1 := rfl
      omega
    | some k =>
      simp only [mo]
      exact ⟨fun h => by rw [if_pos h], fun h => ⟨e, by rw [if_neg h]⟩⟩
  · rw [if_neg e, if_neg e]
    refine ⟨fun _ => rfl, fun h => ?_⟩
    refine absurd ?_ h
    cases o with
    | none => exact Int32.le_refl _
    | some k =>
      have := hL k rfl
      simp only [mo]
      rw [ti_le]
      have e1 : (-1 : Int32).toInt = -1 := rfl
      omega
/-! strongest -/
theorem bt0_on : ∀ b, b < 64 → ∀ i, i < 6 → (¬ (((on b) >>> ((on i) &&& 31)) &&& (1 : Int32)) = 0 ↔ b.testBit i = true) := by decide +kernel
theorem ex_bit : ∀ b, b < 64 → b ≠ 0 → ∃ k, k < 6 ∧ b.testBit k = true := by decide +kernel
theorem tb_m {b m k : Nat} (hb : b < 2 ^ m) (hk : b.testBit k = true) : k < m := by
  rcases Nat.lt_or_ge k m with q | q
  · exact q
  · have hlt : b < 2 ^ k := Nat.lt_of_lt_of_le hb (Nat.pow_le_pow_right (by decide) q)
    rw [Nat.testBit_lt_two_pow hlt] at hk
    cases hk
abbrev L1 (h : Hs) (f : Rf) (z : Ss) (k : Nat) : Int32 := qlif h f (2 ^ k) z
theorem X_strong {V : ai_V} {h : Hs} {f : Rf} {z : Ss} {b k : Nat} (K : KC V h f) (hz : cS z V 16) (hb : b < 2 ^ hm h) (h0 : b ≠ 0) (hk : sb (L1 h f z) (fun i => b.testBit i = true) (hm h) = some k) :
    ∃ V', d_X_strongest (on b) V = some (on k, V') ∧ cRow V' [(L1 h f z k).toInt64] := by
  have h6 := K.1.1
  have h64 := Nat.lt_of_lt_of_le hb (two_le h6)
  have hbb : 0 ≤ on b ∧ on b < on (2 ^ hm h) := ⟨on_ge0 (by omega), by rw [on_lt (by omega) (by have := two_le h6; omega)]; exact hb⟩
  rw [d_X_strongest, hasAll_eq K.1 K.2.1, bd_some, if_neg (by rw [tf_pos hbb]; decide), if_pos (by rw [on_z (by omega)]; exact h0)]
  have := loop_n (fun n (a : Option Nat) x V => d_X_strongest_24 n (on b) (ob (-1) a) (mo (L1 h f z) a) x V) (fun c : Int32 × ai_V => some c)
    (fun i a V' => a = sb (L1 h f z) (fun i => b.testBit i = true) i ∧ Fr w_Wheel_pails V V') (fun c => c.1 = on k ∧ cRow c.2 [(L1 h f z k).toInt64]) (hm h) ?_ ?_ (hm h) 0 ai_N none V (by omega) (N_gt (by omega)) ⟨rfl, Fr.rf⟩
  · obtain ⟨⟨c1, c2⟩, e, q1, q2⟩ := this
    simp only at q1 q2
    subst q1
    exact ⟨c2, e, q2⟩
  · rintro n a i V1 hi ⟨ha, hF⟩
    have K1 := K.fr hF rfl
    have z1 := hz.fr hF rfl rfl rfl rfl
    show ∃ (a' : Option Nat) (V' : ai_V), d_X_strongest_24 (n + 1) (on b) (ob (-1) a) (mo (L1 h f z) a) (on i) V1 = _ ∧ _
    have hss := sb_s (L1 h f z) (fun i => b.testBit i = true) i
    rw [← ha] at hss
    have hsome := (sb_some (L := L1 h f z) (p := fun i => b.testBit i = true) (m := i)).1
    have hC := sb_C (L := L1 h f z) (p := fun i => b.testBit i = true) (i := i) (o := a) (fun k hk => (qlif_1 K.1 f (by have := (hsome k (ha ▸ hk)).1; omega) z).1) (fun _ => (qlif_1 K.1 f hi z).1)
    have fin : ∀ V2, Fr w_Wheel_pails V V2 → ∃ (a' : Option Nat) (V' : ai_V), d_X_strongest_63 (d_X_strongest_24 n) (on b) (ob (-1) a) (mo (L1 h f z) a) (on i) (if b.testBit i = true then L1 h f z i else -1) V2 = d_X_strongest_24 n (on b) (ob (-1) a') (mo (L1 h f z) a') (on (i + 1)) V' ∧ a' = sb (L1 h f z) (fun i => b.testBit i = true) (i + 1) ∧ Fr w_Wheel_pails V V' := by
      intro V2 F2
      rw [d_X_strongest_63]
      by_cases e : (if b.testBit i = true then L1 h f z i else -1) ≤ mo (L1 h f z) a
      · rw [if_pos e, d_X_strongest_77, on_s]
        exact ⟨a, V2, rfl, by rw [hss, hC.1 e], F2⟩
      · obtain ⟨q1, q2⟩ := hC.2 e
        rw [if_neg e, d_X_strongest_77, on_s, if_pos q1]
        exact ⟨some i, V2, rfl, by rw [hss, q2], F2⟩
    rw [d_X_strongest_24, K1.2.1.1, if_neg (by rw [on_le (by omega) (by omega)]; omega)]
    by_cases e : b.testBit i = true
    · obtain ⟨V2, e2, F2⟩ := pn_1 K1 z1 (pr_one hi)
      rw [if_pos ((bt0_on b h64 i (by omega)).mpr e), e2, bd_some]
      have : lfo h f (on i) (2 ^ i) z.2.1 (q12 z.1) (hbr h) = L1 h f z i := by
        rw [L1, qlif, LA_one K.1 f hi, lfo, if_neg (on_ne_m1 (by omega)), on_nn (by omega)]
      have q := fin V2 (Fr.tr hF F2 rfl)
      rw [if_pos e] at q
      show ∃ (a' : Option Nat) (V' : ai_V), d_X_strongest_63 (d_X_strongest_24 n) (on b) (ob (-1) a) (mo (L1 h f z) a) (on i) (lfo h f (on i) (2 ^ i) z.2.1 (q12 z.1) (hbr h)) V2 = _ ∧ _
      rw [this]; exact q
    · rw [if_neg (fun hn => e ((bt0_on b h64 i (by omega)).mp hn))]
      have q := fin V1 hF
      rw [if_neg e] at q
      exact q
  · rintro n a V1 ⟨ha, hF⟩
    have K1 := K.fr hF rfl
    show ∃ c : Int32 × ai_V, d_X_strongest_24 (n + 1) (on b) (ob (-1) a) (mo (L1 h f z) a) (on (hm h)) V1 = _ ∧ _
    rw [d_X_strongest_24, K1.2.1.1, if_pos (Int32.le_refl _)]
    rw [hk] at ha
    subst ha
    obtain ⟨V2, e2, c2, -⟩ := tell1 (mo (L1 h f z) (some k)).toInt64 V1
    rw [e2, bd_some]
    exact ⟨_, rfl, rfl, c2⟩
theorem M_strong {V : ai_V} {h : Hs} {f : Rf} {z : Ss} {b k : Nat} (K : KM V h f) (hz : mS z V 90 0) (hb : b < 2 ^ hm h) (h0 : b ≠ 0) (hk : sb (L1 h f z) (fun i => b.testBit i = true) (hm h) = some k) :
    ∃ V', d_M_strongest (on b) V = some (on k, V') ∧ mRow V' [(L1 h f z k).toInt64] := by
  have h6 := K.1.1
  have h64 := Nat.lt_of_lt_of_le hb (two_le h6)
  have hbb : 0 ≤ on b ∧ on b < on (2 ^ hm h) := ⟨on_ge0 (by omega), by rw [on_lt (by omega) (by have := two_le h6; omega)]; exact hb⟩
  rw [d_M_strongest, areThose_eq K.1 (K.s14 0).2.1, bd_some, if_neg (by rw [tf_pos hbb]; decide), if_pos (by rw [on_z (by omega)]; exact h0)]
  have hw : ∀ V', Fr wM V V' → KM V' h f ∧ mS z V' 90 0 := fun V' F => ⟨K.fr F rfl, hz.fr F rfl⟩
  have := loop_n (fun n (a : Option Nat) x V => d_M_strongest_23 n (on b) (ob (-1) a) x V) (fun c : Int32 × ai_V => some c)
    (fun i a V' => a = sb (L1 h f z) (fun i => b.testBit i = true) i ∧ Fr wM V V') (fun c => c.1 = on k ∧ mRow c.2 [(L1 h f z k).toInt64]) (hm h) ?_ ?_ (hm h) 0 ai_N none (si V 89 14 0) (by omega) (N_gt (by omega)) ⟨rfl, Fr.si Fr.rf rfl⟩
  · obtain ⟨⟨c1, c2⟩, e, q1, q2⟩ := this
    simp only at q1 q2
    subst q1
    exact ⟨c2, e, q2⟩
  · rintro n a i V1 hi ⟨ha, hF⟩
    obtain ⟨K1, z1⟩ := hw V1 hF
    show ∃ (a' : Option Nat) (V' : ai_V), d_M_strongest_23 (n + 1) (on b) (ob (-1) a) (on i) V1 = _ ∧ _
    have hss := sb_s (L1 h f z) (fun i => b.testBit i = true) i
    rw [← ha] at hss
    unfold sbS at hss
    have hsome := (sb_some (L := L1 h f z) (p := fun i => b.testBit i = true) (m := i)).1
    rw [d_M_strongest_23, K1.2.1.1, if_neg (by rw [on_le (by omega) (by omega)]; omega), mhas_on h64 (by omega), bd_some]
    by_cases e : b.testBit i = true
    · rw [if_pos e] at hss
      rw [if_neg (by rw [tf_pos e]; decide)]
      cases ea : a with
      | none =>
        rw [ea] at hss
        rw [show ob (-1) none = (-1 : Int32) from rfl, if_pos rfl, d_M_strongest_61, d_M_strongest_63, on_s]
        exact ⟨some i, V1, rfl, hss.symm, hF⟩
      | some k0 =>
        rw [ea] at hss
        have hk0 := (hsome k0 (ha ▸ ea)).1
        obtain ⟨V2, e2, F2⟩ := mn_eq K1 z1 (pw_lt i (by omega))
        have F2' : Fr wM V V2 := Fr.tr hF F2 rfl
        obtain ⟨K2, z2⟩ := hw V2 F2'
        obtain ⟨V3, e3, F3⟩ := mn_eq K2 z2 (pw_lt k0 (by omega))
        have F3' : Fr wM V V3 := Fr.tr F2' F3 rfl
        rw [show ob (-1) (some k0) = on k0 from rfl, if_neg (on_ne_m1 (by omega)), sh_on (by omega), e2, bd_some, sh_on (by omega)]
        show ∃ (a' : Option Nat) (V' : ai_V), ((d_M_liftNow (on (2 ^ k0)) V2).bind _) = _ ∧ _
        rw [e3, bd_some]
        simp only at hss ⊢
        by_cases e4 : L1 h f z i ≤ L1 h f z k0
        · rw [if_pos e4] at hss
          rw [if_pos e4, d_M_strongest_63, on_s]
          exact ⟨some k0, V3, rfl, hss.symm, F3'⟩
        · rw [if_neg e4] at hss
          rw [if_neg e4, d_M_strongest_61, d_M_strongest_63, on_s]
          exact ⟨some i, V3, rfl, hss.symm, F3'⟩
    · rw [if_neg e] at hss
      rw [if_pos (tf_neg e), d_M_strongest_63, on_s]
      exact ⟨a, V1, rfl, hss.symm, hF⟩
  · rintro n a V1 ⟨ha, hF⟩
    obtain ⟨K1, z1⟩ := hw V1 hF
    have hk1 := ((sb_some (L := L1 h f z) (p := fun i => b.testBit i = true) (m := hm h)).1 k hk).1
    show ∃ c : Int32 × ai_V, d_M_strongest_23 (n + 1) (on b) (ob (-1) a) (on (hm h)) V1 = _ ∧ _
    rw [hk] at ha
    subst ha
    have K2 : KM (si V1 89 13 0) h f := K1.fr (w := ([(89, 13)], [])) (Fr.si Fr.rf rfl) rfl
    have z2 : mS z (si V1 89 13 0) 90 0 := z1.fr (w := ([(89, 13)], [])) (Fr.si Fr.rf rfl) rfl
    obtain ⟨V2, e2, F2⟩ := mn_eq K2 z2 (pw_lt k (by omega))
    obtain ⟨V3, e3, c3, -⟩ := m_tell ((m_row0 V1).fr F2 rfl) (by simp) (L1 h f z k).toInt64
    rw [d_M_strongest_23, K1.2.1.1, if_pos (Int32.le_refl _), show ob (-1) (some k) = on k from rfl, sh_on (by omega), e2, bd_some]
    show ∃ c : Int32 × ai_V, ((d_M_tell (L1 h f z k).toInt64 V2).bind _) = _ ∧ _
    rw [e3, bd_some]
    exact ⟨_, rfl, rfl, c3⟩
theorem st_strongest {N : Nat} {V : ai_V} (hI : Inv N V) (hN : N < 512) (x : Int32) : Step N V (d_X_strongest x) (d_M_strongest x) := by
  obtain ⟨h, f, z, rm, nw, kc, km, hS, hn, hb⟩ := hI.k
  have hO := kc.1
  have h6 := hO.1
  by_cases hx : (0 ≤ x ∧ x < on (2 ^ hm h)) ∧ x ≠ 0
  · obtain ⟨hx1, hx2⟩ := hx
    obtain ⟨b, hb2, rfl⟩ := those_on hO hx1
    have h64 := Nat.lt_of_lt_of_le hb2 (two_le h6)
    have h0 : b ≠ 0 := fun e => hx2 (by rw [e]; rfl)
    obtain ⟨j, hj, hjb⟩ := ex_bit b h64 h0
    have hne := (sb_some (L := L1 h f z) (p := fun i => b.testBit i = true) (m := hm h)).2 ⟨j, tb_m hb2 hjb, hjb⟩
    cases hk : sb (L1 h f z) (fun i => b.testBit i = true) (hm h) with
    | none => exact absurd hk hne
    | some k =>
      obtain ⟨V1, e1, c1⟩ := X_strong kc hS.2.1 hb2 h0 hk
      have F1 : Fr w_X_strongest V V1 := fr_X_strongest _ _ _ e1
      obtain ⟨V2, e2, c2⟩ := M_strong (km.fr F1 rfl) (hS.2.2.1.fr F1 rfl) hb2 h0 hk
      have F2 : Fr w_M_strongest V1 V2 := fr_M_strongest _ _ _ e2
      exact ⟨_, V1, V2, e1, e2, hI.qq F1 F2 rfl rfl rfl rfl (o := some _) (fun r hr => by obtain rfl := Option.some.inj hr; simp) c1 c2 (hI.x.fr2 F1 F2 rfl rfl)⟩
  · refine ⟨-1, V, si V 89 14 0, ?_, ?_, hI.no 0⟩
    · rw [d_X_strongest, hasAll_eq hO kc.2.1, bd_some]
      by_cases e : 0 ≤ x ∧ x < on (2 ^ hm h)
      · rw [if_neg (by rw [tf_pos e]; decide), if_neg (fun hn => hx ⟨e, hn⟩)]
      · rw [if_pos (tf_neg e)]
    · rw [d_M_strongest, areThose_eq hO (km.s14 0).2.1, bd_some]
      by_cases e : 0 ≤ x ∧ x < on (2 ^ hm h)
      · rw [if_neg (by rw [tf_pos e]; decide), if_neg (fun hn => hx ⟨e, hn⟩)]
      · rw [if_pos (tf_neg e)]
