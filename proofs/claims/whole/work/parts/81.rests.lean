/-! ===== rests, braked ===== -/
def bw (i j w : Nat) : Nat := if w = 0 then 0 else if w = 1 then 2 ^ i else if w = 2 then 2 ^ j else 2 ^ i ||| 2 ^ j
def gG (h : Hs) (f : Rf) (z : Ss) (n : Int32) (i j w : Nat) : Int32 := qlif h f (bw i j w) z / 2 * n - (if w % 2 = 1 then tn h (bw i j w) else 0)
def mir (w : Nat) : Nat := if w = 1 then 2 else if w = 2 then 1 else w
theorem bw_mir (i j w : Nat) (hw : w < 4) : bw j i (mir w) = bw i j w := by
  have : w = 0 ∨ w = 1 ∨ w = 2 ∨ w = 3 := by omega
  rcases this with rfl | rfl | rfl | rfl
  · rfl
  · rfl
  · rfl
  · exact Nat.or_comm _ _
theorem X_gain {V : ai_V} {h : Hs} {f : Rf} {z : Ss} {n : Int32} {i j w : Nat} (K : KC V h f) (hz : cS z V 16) (hi : i < hm h) (hj : j < hm h) (hij : i ≠ j) (hw : w < 4) :
    ∃ V', d_X_gain (on i) (on j) (on w) n V = some (gG h f z n i j w, V') ∧ Fr w_Wheel_pails V V' := by
  have h6 := K.1.1
  have hw4 : w = 0 ∨ w = 1 ∨ w = 2 ∨ w = 3 := by omega
  rcases hw4 with rfl | rfl | rfl | rfl
  · obtain ⟨V1, e1, F1⟩ := tog_1 K hz (pr_no h)
    refine ⟨V1, ?_, F1⟩
    rw [d_X_gain, if_pos (by decide), d_X_gain_12, if_pos (by decide), d_X_gain_26, e1, bd_some, if_neg (fun hn => hn rfl)]; rfl
  · obtain ⟨V1, e1, F1⟩ := tog_1 K hz (pr_one hi)
    refine ⟨V1, ?_, F1⟩
    rw [d_X_gain, if_neg (by decide), d_X_gain_12, if_pos (by decide), d_X_gain_26, e1, bd_some, if_pos (on_ne_m1 (by omega)), turnsC_eq K.1 (K.fr F1 rfl).2.1 (pr_one hi), bd_some]; rfl
  · obtain ⟨V1, e1, F1⟩ := tog_2 K hz (pr_one hj)
    refine ⟨V1, ?_, F1⟩
    rw [d_X_gain, if_pos (by decide), d_X_gain_12, if_neg (by decide), d_X_gain_26, e1, bd_some, if_neg (fun hn => hn rfl)]; rfl
  · obtain ⟨V1, e1, F1⟩ := tog_1 K hz (pr_two hi hj hij)
    refine ⟨V1, ?_, F1⟩
    rw [d_X_gain, if_neg (by decide), d_X_gain_12, if_neg (by decide), d_X_gain_26, e1, bd_some, if_pos (on_ne_m1 (by omega)), turnsC_eq K.1 (K.fr F1 rfl).2.1 (pr_two hi hj hij), bd_some]; rfl
def g1 (h : Hs) (f : Rf) (z : Ss) (n : Int32) (i j w : Nat) : Int32 := gG h f z n i j w
def g2 (h : Hs) (f : Rf) (z : Ss) (n : Int32) (i j w : Nat) : Int32 := gG h f z n j i (mir w)
def cont (h : Hs) (f : Rf) (z : Ss) (n : Int32) (i j w : Nat) : Prop := g1 h f z n i j (w ^^^ 1) ≤ g1 h f z n i j w ∧ g2 h f z n i j (w ^^^ 2) ≤ g2 h f z n i j w
def tz (b : Nat) : Nat := if b % 2 = 1 then 0 else if b / 2 % 2 = 1 then 1 else if b / 4 % 2 = 1 then 2 else 3
noncomputable def rsS (h : Hs) (f : Rf) (z : Ss) (n : Int32) (i j w b : Nat) : Nat := if g1 h f z n i j (w ^^^ 1) ≤ g1 h f z n i j w ∧ g2 h f z n i j (w ^^^ 2) ≤ g2 h f z n i j w then b ||| 2 ^ w else b
noncomputable def rsB (h : Hs) (f : Rf) (z : Ss) (n : Int32) (i j k : Nat) : Nat := fo (fun w b => rsS h f z n i j w b) k 0 0
theorem rsB_s (h : Hs) (f : Rf) (z : Ss) (n : Int32) (i j k : Nat) : rsB h f z n i j (k + 1) = rsS h f z n i j k (rsB h f z n i j k) := by
  unfold rsB; rw [fo_s, Nat.zero_add]
def rsR (h : Hs) (f : Rf) (z : Ss) (n : Int32) (i j b : Nat) : List Int64 := if b = 0 then [] else [(g1 h f z n i j (tz b)).toInt64, (g2 h f z n i j (tz b)).toInt64]
theorem tz_or : ∀ w, w < 4 → ∀ b, b < 2 ^ w → (b ||| 2 ^ w ≠ 0 ∧ tz (b ||| 2 ^ w) = (if b = 0 then w else tz b) ∧ b ||| 2 ^ w < 2 ^ (w + 1) ∧ on b ||| ((1 : Int32) <<< (on w &&& 31)) = on (b ||| 2 ^ w)) := by decide +kernel
theorem mir_eq : ∀ w, w < 4 → ∀ V : ai_V, d_X_mirrored (on w) V = some (on (mir w)) := by
  have key : ∀ w, w < 4 → d_X_mirrored (on w) V00 = some (on (mir w)) := by decide +kernel
  intro w hw V; exact key w hw
theorem xor_w : ∀ w, w < 4 → on w ^^^ (1 : Int32) = on (w ^^^ 1) ∧ on w ^^^ (2 : Int32) = on (w ^^^ 2) ∧ w ^^^ 1 < 4 ∧ w ^^^ 2 < 4 ∧ on (mir w) ^^^ (1 : Int32) = on (mir (w ^^^ 2)) ∧ mir w < 4 := by decide +kernel
theorem ntz_on : ∀ b, b < 16 → b ≠ 0 → ∀ V : ai_V, d_Int_numberOfTrailingZeros (on b) V = some (on (tz b)) := by
  have key : ∀ b, b < 16 → b ≠ 0 → d_Int_numberOfTrailingZeros (on b) V00 = some (on (tz b)) := by decide +kernel
  intro b hb h0 V; exact key b hb h0
theorem X_rests {V : ai_V} {h : Hs} {f : Rf} {z : Ss} {n : Int32} {i j : Nat} (K : KC V h f) (hz : cS z V 16) (hi : i < hm h) (hj : j < hm h) (hij : i ≠ j) (hn : 1 ≤ n ∧ n ≤ 9) :
    ∃ V', d_X_rests (on i) (on j) n V = some (on (rsB h f z n i j 4), V') ∧ cRow V' (rsR h f z n i j (rsB h f z n i j 4)) := by
  have h6 := K.1.1
  have hcan : d_House_canTread (on i) (on j) V = some 1 := by
    rcases canTread_eq K.1 K.2.1 (on i) (on j) with ⟨q, -⟩ | ⟨-, q⟩
    · exact q
    · refine absurd ?_ q
      unfold canT
      rw [if_neg (on_ne_m1 (by omega))]
      exact ⟨on_has K.1 hi, by rw [Ne, on_inj (by omega) (by omega)]; exact hij, Or.inr (on_has K.1 hj)⟩
  obtain ⟨q1, q2⟩ := row_clear V
  rw [d_X_rests, if_neg (on_ne_m1 (by omega)), if_neg (on_ne_m1 (by omega)), hcan, bd_some, if_neg (by decide), if_neg (nlt.mpr hn.1), if_pos hn.2, q1, bd_some]
  have := loop_n (fun k (b : Nat) x V => d_X_rests_48 k (on i) (on j) n (on b) x V) (fun c : Int32 × ai_V => some c)
    (fun w b V' => b = rsB h f z n i j w ∧ b < 2 ^ w ∧ cRow V' (rsR h f z n i j b) ∧ Fr ([(22, 1)], [12, 13, 23]) V V')
    (fun c => c.1 = on (rsB h f z n i j 4) ∧ cRow c.2 (rsR h f z n i j (rsB h f z n i j 4))) 4 ?_ ?_ 4 0 ai_N 0 _ (by omega) (N_gt (by omega)) ⟨rfl, by decide, q2, Fr.si Fr.rf rfl⟩
  · obtain ⟨⟨c1, c2⟩, e, q1, q2⟩ := this
    simp only at q1 q2
    subst q1
    exact ⟨c2, e, q2⟩
  · rintro k b w V1 hw ⟨hb, hb2, hr, hF⟩
    obtain ⟨x1, x2, x3, x4, x5, x6⟩ := xor_w w hw
    obtain ⟨t1, t2, t3, t4⟩ := tz_or w hw b hb2
    show ∃ (b' : Nat) (V' : ai_V), d_X_rests_48 (k + 1) (on i) (on j) n (on b) (on w) V1 = _ ∧ _
    have wk : ∀ V', Fr ([(22, 1)], [12, 13, 23]) V V' → KC V' h f ∧ cS z V' 16 := fun V' F => ⟨K.fr F rfl, hz.fr F rfl rfl rfl rfl⟩
    obtain ⟨K1, z1⟩ := wk V1 hF
    obtain ⟨Va, ea, Fa⟩ := X_gain (n := n) K1 z1 hi hj hij hw
    have Fa' : Fr ([(22, 1)], [12, 13, 23]) V Va := Fr.tr hF Fa rfl
    obtain ⟨Ka, za⟩ := wk Va Fa'
    obtain ⟨Vb, eb, Fb⟩ := X_gain (n := n) (w := mir w) Ka za hj hi (Ne.symm hij) x6
    have Fb' : Fr ([(22, 1)], [12, 13, 23]) V Vb := Fr.tr Fa' Fb rfl
    obtain ⟨Kb, zb⟩ := wk Vb Fb'
    obtain ⟨Vc, ec, Fc⟩ := X_gain (n := n) (w := w ^^^ 1) Kb zb hi hj hij x3
    have Fc' : Fr ([(22, 1)], [12, 13, 23]) V Vc := Fr.tr Fb' Fc rfl
    obtain ⟨Kc, zc⟩ := wk Vc Fc'
    have x7 : mir (w ^^^ 2) < 4 := (xor_w _ x4).2.2.2.2.2
    obtain ⟨Vd, ed, Fd⟩ := X_gain (n := n) (w := mir (w ^^^ 2)) Kc zc hj hi (Ne.symm hij) x7
    have Fd' : Fr ([(22, 1)], [12, 13, 23]) V Vd := Fr.tr Fc' Fd rfl
    have rc : cRow Vc (rsR h f z n i j b) := ((hr.fr Fa rfl).fr Fb rfl).fr Fc rfl
    have rd : cRow Vd (rsR h f z n i j b) := rc.fr Fd rfl
    have hbs := rsB_s h f z n i j w
    rw [← hb, rsS] at hbs
    have keep : ∀ V', cRow V' (rsR h f z n i j b) → Fr ([(22, 1)], [12, 13, 23]) V V' → ¬ (g1 h f z n i j (w ^^^ 1) ≤ g1 h f z n i j w ∧ g2 h f z n i j (w ^^^ 2) ≤ g2 h f z n i j w) → ∃ (b' : Nat) (V'' : ai_V), d_X_rests_118 (d_X_rests_48 k) (on i) (on j) n (on b) (on w) (gG h f z n i j w) (gG h f z n j i (mir w)) V' = d_X_rests_48 k (on i) (on j) n (on b') (on (w + 1)) V'' ∧ b' = rsB h f z n i j (w + 1) ∧ b' < 2 ^ (w + 1) ∧ cRow V'' (rsR h f z n i j b') ∧ Fr ([(22, 1)], [12, 13, 23]) V V'' := by
      intro V' r' F' hno
      rw [if_neg hno] at hbs
      rw [d_X_rests_118, d_X_rests_119, if_pos rfl, d_X_rests_153, on_s]
      exact ⟨b, V', rfl, hbs.symm, Nat.lt_of_lt_of_le hb2 (Nat.pow_le_pow_right (by decide) (by omega)), r', F'⟩
    rw [d_X_rests_48, if_neg (by rw [show (4 : Int32) = on 4 from rfl, on_le (by omega) (by omega)]; omega), ea, bd_some, mir_eq w hw, bd_some]
    show ∃ (b' : Nat) (V' : ai_V), ((d_X_gain (on j) (on i) (on (mir w)) n Va).bind _) = _ ∧ _
    rw [eb, bd_some, x1]
    show ∃ (b' : Nat) (V' : ai_V), ((d_X_gain (on i) (on j) (on (w ^^^ 1)) n Vb).bind _) = _ ∧ _
    rw [ec, bd_some]
    simp only
    by_cases e1 : gG h f z n i j w < gG h f z n i j (w ^^^ 1)
    · rw [if_pos e1]
      exact keep Vc rc Fc' (fun hc => absurd hc.1 (nle.mpr e1))
    · rw [if_neg e1, mir_eq w hw, bd_some, x5, ed, bd_some]
      simp only
      by_cases e2 : gG h f z n j i (mir w) < gG h f z n j i (mir (w ^^^ 2))
      · rw [if_pos e2]
        exact keep Vd rd Fd' (fun hc => absurd hc.2 (nle.mpr e2))
      · rw [if_neg e2, d_X_rests_119, if_neg (by decide)]
        rw [if_pos ⟨nlt.mp e1, nlt.mp e2⟩] at hbs
        by_cases e3 : b = 0
        · obtain ⟨Ve, ee, re, Fe⟩ := tell2 (gG h f z n i j w).toInt64 (gG h f z n j i (mir w)).toInt64 Vd
          rw [if_neg (by rw [e3]; exact fun hn => hn rfl), ee, bd_some, d_X_rests_144, d_X_rests_153, on_s, t4]
          refine ⟨_, Ve, rfl, hbs.symm, t3, ?_, Fr.tr Fd' Fe rfl⟩
          rw [rsR, if_neg t1, t2, if_pos e3]; exact re
        · have hb16 : b < 16 := Nat.lt_of_lt_of_le hb2 (Nat.pow_le_pow_right (by decide) (show w ≤ 4 by omega))
          rw [if_pos (by rw [on_z (by omega)]; exact e3), d_X_rests_144, d_X_rests_153, on_s, t4]
          refine ⟨_, Vd, rfl, hbs.symm, t3, ?_, Fd'⟩
          rw [rsR, if_neg e3] at rd
          rw [rsR, if_neg t1, t2, if_neg e3]; exact rd
  · rintro k b V1 ⟨hb, hb2, hr, hF⟩
    show ∃ c : Int32 × ai_V, d_X_rests_48 (k + 1) (on i) (on j) n (on b) (on 4) V1 = _ ∧ _
    rw [d_X_rests_48, if_pos (by decide), ← hb]
    exact ⟨_, rfl, rfl, hr⟩
theorem g2_eq {h : Hs} {f : Rf} {z : Ss} {n : Int32} {i j w : Nat} (hw : w < 4) : g2 h f z n i j w = qlif h f (bw i j w) z / 2 * n - (if w / 2 % 2 = 1 then tn h (bw i j w) else 0) := by
  unfold g2 gG
  rw [bw_mir i j w hw]
  congr 1
  have : w = 0 ∨ w = 1 ∨ w = 2 ∨ w = 3 := by omega
  rcases this with rfl | rfl | rfl | rfl <;> rfl
theorem mh_w : ∀ w, w < 4 → ∀ V : ai_V, d_M_has (on w) 0 V = some (tf (w % 2 = 1)) ∧ d_M_has (on w) 1 V = some (tf (w / 2 % 2 = 1)) := by
  have key : ∀ w, w < 4 → d_M_has (on w) 0 V00 = some (tf (w % 2 = 1)) ∧ d_M_has (on w) 1 V00 = some (tf (w / 2 % 2 = 1)) := by decide +kernel
  intro w hw V; exact key w hw
theorem bw_or : ∀ i, i < 6 → ∀ j, j < 6 → ∀ w, w < 4 → (if w % 2 = 1 then (1 : Int32) <<< (on i &&& 31) else 0) ||| (if w / 2 % 2 = 1 then (1 : Int32) <<< (on j &&& 31) else 0) = on (bw i j w) ∧ bw i j w < 64 := by decide +kernel
theorem M_rests {V : ai_V} {h : Hs} {f : Rf} {z : Ss} {n : Int32} {i j : Nat} (K : KM V h f) (hz : mS z V 90 0) (hi : i < hm h) (hj : j < hm h) (hij : i ≠ j) (hn : 1 ≤ n ∧ n ≤ 9) :
    ∃ V', d_M_rests (on i) (on j) n V = some (on (rsB h f z n i j 4), V') ∧ mRow V' (rsR h f z n i j (rsB h f z n i j 4)) := by
  have h6 := K.1.1
  have wk : ∀ V', Fr ([(89, 14), (89, 15), (89, 16), (89, 17), (89, 18), (89, 19), (89, 23), (89, 24), (89, 25), (89, 26), (89, 27), (89, 28)], [113]) V V' → KM V' h f ∧ mS z V' 90 0 := fun V' F => ⟨K.fr F rfl, hz.fr F rfl⟩
  rw [d_M_rests, areTwo_eq K.1 (K.s14 0).2.1, bd_some, if_neg (by rw [tf_pos ⟨on_has K.1 hi, on_has K.1 hj, by rw [Ne, on_inj (by omega) (by omega)]; exact hij⟩]; decide), in_eq, bd_some, if_pos (by rw [tf_pos hn]; decide)]
  have := loop_n (fun k (_ : Unit) x V => d_M_rests_29 k (on i) (on j) n x V) (fun c : Int32 × ai_V => some c)
    (fun w _ V' => (∀ k, k < w → ga V' 113 (2 * k) = g1 h f z n i j k ∧ ga V' 113 (2 * k + 1) = g2 h f z n i j k) ∧ Fr ([(89, 14), (89, 15), (89, 16), (89, 17), (89, 18), (89, 19), (89, 23), (89, 24), (89, 25), (89, 26), (89, 27), (89, 28)], [113]) V V')
    (fun c => c.1 = on (rsB h f z n i j 4) ∧ mRow c.2 (rsR h f z n i j (rsB h f z n i j 4))) 4 ?_ ?_ 4 0 ai_N () (si V 89 14 0) (by omega) (N_gt (by omega)) ⟨fun k hk => absurd hk (by omega), Fr.si Fr.rf rfl⟩
  · obtain ⟨⟨c1, c2⟩, e, q1, q2⟩ := this
    simp only at q1 q2
    subst q1
    exact ⟨c2, e, q2⟩
  · rintro k _ w V1 hw ⟨hg, hF⟩
    obtain ⟨b1, b2⟩ := bw_or i (by omega) j (by omega) w hw
    obtain ⟨K1, z1⟩ := wk V1 hF
    obtain ⟨V2, e2, F2⟩ := mn_eq K1 z1 b2
    have F2' : Fr ([(89, 14), (89, 15), (89, 16), (89, 17), (89, 18), (89, 19), (89, 23), (89, 24), (89, 25), (89, 26), (89, 27), (89, 28)], [113]) V V2 := Fr.tr hF F2 rfl
    obtain ⟨K2, z2⟩ := wk V2 F2'
    have hg2 : ∀ k, k < w → ga V2 113 (2 * k) = g1 h f z n i j k ∧ ga V2 113 (2 * k + 1) = g2 h f z n i j k := fun k hk => by rw [F2.ga 113 rfl]; exact hg k hk
    -- the second half of a way
    have last : ∃ (a' : Unit) (V' : ai_V), d_M_rests_111 (d_M_rests_29 k) (on i) (on j) n (on w) (on (bw i j w)) (qlif h f (bw i j w) z / 2 * n) (if w % 2 = 1 then tn h (bw i j w) else 0) (qlif h f (bw i j w) z / 2 * n) (2 * on w) V2 = d_M_rests_29 k (on i) (on j) n (on (w + 1)) V' ∧ (∀ k, k < w + 1 → ga V' 113 (2 * k) = g1 h f z n i j k ∧ ga V' 113 (2 * k + 1) = g2 h f z n i j k) ∧ Fr ([(89, 14), (89, 15), (89, 16), (89, 17), (89, 18), (89, 19), (89, 23), (89, 24), (89, 25), (89, 26), (89, 27), (89, 28)], [113]) V V' := by
      rw [d_M_rests_111, show (2 : Int32) = on 2 from rfl, on_mul, if_pos (by rw [on_in (by omega)]; omega), on_nn (by omega)]
      generalize hV3 : sa V2 113 (2 * w) (qlif h f (bw i j w) z / on 2 * n - if w % 2 = 1 then tn h (bw i j w) else 0) = V3
      have F3 : Fr ([], [113]) V2 V3 := by rw [← hV3]; exact Fr.sa Fr.rf rfl
      have F3' : Fr ([(89, 14), (89, 15), (89, 16), (89, 17), (89, 18), (89, 19), (89, 23), (89, 24), (89, 25), (89, 26), (89, 27), (89, 28)], [113]) V V3 := Fr.tr F2' F3 rfl
      obtain ⟨K3, z3⟩ := wk V3 F3'
      have fin : ∀ t : Int32, t = (if w / 2 % 2 = 1 then tn h (bw i j w) else 0) → ∃ (a' : Unit) (V' : ai_V), d_M_rests_144 (d_M_rests_29 k) (on i) (on j) n (on w) t (qlif h f (bw i j w) z / on 2 * n) (on (2 * w) + 1) V3 = d_M_rests_29 k (on i) (on j) n (on (w + 1)) V' ∧ (∀ k, k < w + 1 → ga V' 113 (2 * k) = g1 h f z n i j k ∧ ga V' 113 (2 * k + 1) = g2 h f z n i j k) ∧ Fr ([(89, 14), (89, 15), (89, 16), (89, 17), (89, 18), (89, 19), (89, 23), (89, 24), (89, 25), (89, 26), (89, 27), (89, 28)], [113]) V V' := by
        intro t ht
        rw [d_M_rests_144, on_s, if_pos (by rw [on_in (by omega)]; omega), on_nn (by omega), on_s]
        refine ⟨(), _, rfl, fun q hq => ?_, Fr.sa F3' rfl⟩
        rw [ga_sa, ga_sa, ← hV3, ga_sa, ga_sa]
        by_cases e : q = w
        · subst e
          refine ⟨?_, ?_⟩
          · rw [if_neg (by omega), if_pos ⟨rfl, rfl⟩]; rfl
          · rw [if_pos ⟨rfl, rfl⟩, ht, g2_eq hw]; rfl
        · refine ⟨?_, ?_⟩
          · rw [if_neg (by omega), if_neg (by omega)]; exact (hg2 q (by omega)).1
          · rw [if_neg (by omega), if_neg (by omega)]; exact (hg2 q (by omega)).2
      rw [(mh_w w hw V3).2, bd_some]
      by_cases e : w / 2 % 2 = 1
      · rw [if_neg (by rw [tf_pos e]; decide), turnsM_eq K.1 K3.2.1 b2, bd_some]
        exact fin _ (by rw [if_pos e])
      · rw [if_pos (tf_neg e)]
        exact fin _ (by rw [if_neg e])
    show ∃ (a' : Unit) (V' : ai_V), d_M_rests_29 (k + 1) (on i) (on j) n (on w) V1 = _ ∧ _
    have mid : ∀ s0 s1 : Int32, s1 ||| s0 = on (bw i j w) → ∃ (a' : Unit) (V' : ai_V), d_M_rests_67 (d_M_rests_29 k) (on i) (on j) n (on w) s0 s1 V1 = d_M_rests_29 k (on i) (on j) n (on (w + 1)) V' ∧ (∀ k, k < w + 1 → ga V' 113 (2 * k) = g1 h f z n i j k ∧ ga V' 113 (2 * k + 1) = g2 h f z n i j k) ∧ Fr ([(89, 14), (89, 15), (89, 16), (89, 17), (89, 18), (89, 19), (89, 23), (89, 24), (89, 25), (89, 26), (89, 27), (89, 28)], [113]) V V' := by
      intro s0 s1 hs
      rw [d_M_rests_67, hs, e2, bd_some]
      simp only
      rw [(mh_w w hw V2).1, bd_some]
      by_cases e : w % 2 = 1
      · rw [if_pos e] at last
        rw [if_neg (by rw [tf_pos e]; decide), turnsM_eq K.1 K2.2.1 b2, bd_some]; exact last
      · rw [if_neg e] at last
        rw [if_pos (tf_neg e)]; exact last
    rw [d_M_rests_29, if_neg (by rw [show (4 : Int32) = on 4 from rfl, on_le (by omega) (by omega)]; omega), (mh_w w hw V1).1, bd_some]
    by_cases e : w % 2 = 1
    · rw [if_pos e] at b1
      rw [if_neg (by rw [tf_pos e]; decide), d_M_rests_51, (mh_w w hw V1).2, bd_some]
      by_cases e' : w / 2 % 2 = 1
      · rw [if_pos e'] at b1
        rw [if_neg (by rw [tf_pos e']; decide)]; exact mid _ _ b1
      · rw [if_neg e'] at b1
        rw [if_pos (tf_neg e')]; exact mid _ _ b1
    · rw [if_neg e] at b1
      rw [if_pos (tf_neg e), d_M_rests_51, (mh_w w hw V1).2, bd_some]
      by_cases e' : w / 2 % 2 = 1
      · rw [if_pos e'] at b1
        rw [if_neg (by rw [tf_pos e']; decide)]; exact mid _ _ b1
      · rw [if_neg e'] at b1
        rw [if_pos (tf_neg e')]; exact mid _ _ b1
  · rintro k _ V1 ⟨hg, hF⟩
    show ∃ c : Int32 × ai_V, d_M_rests_29 (k + 1) (on i) (on j) n (on 4) V1 = _ ∧ _
    rw [d_M_rests_29, if_pos (by decide)]
    refine loop_n (fun k (b : Nat) x V => d_M_rests_158 k (on b) x V) (fun c : Int32 × ai_V => some c)
      (fun w b V' => b = rsB h f z n i j w ∧ b < 2 ^ w ∧ V' = V1) (fun c => c.1 = on (rsB h f z n i j 4) ∧ mRow c.2 (rsR h f z n i j (rsB h f z n i j 4))) 4 ?_ ?_ 4 0 ai_N 0 V1 (by omega) (N_gt (by omega)) ⟨rfl, by decide, rfl⟩
    · rintro k b w V2 hw ⟨hb, hb2, rfl⟩
      obtain ⟨x1, x2, x3, x4, x5, x6⟩ := xor_w w hw
      obtain ⟨t1, t2, t3, t4⟩ := tz_or w hw b hb2
      show ∃ (b' : Nat) (V' : ai_V), d_M_rests_158 (k + 1) (on b) (on w) V2 = _ ∧ _
      have hbs := rsB_s h f z n i j w
      rw [← hb, rsS] at hbs
      have hlt : b < 2 ^ (w + 1) := Nat.lt_of_lt_of_le hb2 (Nat.pow_le_pow_right (by decide) (by omega))
      rw [d_M_rests_158, if_neg (by rw [show (4 : Int32) = on 4 from rfl, on_le (by omega) (by omega)]; omega), x1, x2, show (2 : Int32) = on 2 from rfl, on_mul, on_mul, on_mul, on_s, on_s, if_pos (by rw [on_in (by omega)]; omega), if_pos (by rw [on_in (by omega)]; omega), on_nn (show 2 * w < 2147483648 by omega), on_nn (show 2 * (w ^^^ 1) < 2147483648 by omega), (hg w hw).1, (hg _ x3).1]
      by_cases e1 : g1 h f z n i j w < g1 h f z n i j (w ^^^ 1)
      · rw [if_neg (fun hc => absurd hc.1 (nle.mpr e1))] at hbs
        rw [if_pos e1, d_M_rests_223, on_s]
        exact ⟨b, V2, rfl, hbs.symm, hlt, rfl⟩
      · rw [if_neg e1, if_pos (by rw [on_in (by omega)]; omega), if_pos (by rw [on_in (by omega)]; omega), on_nn (by omega), on_nn (by omega), (hg w hw).2, (hg _ x4).2]
        by_cases e2 : g2 h f z n i j w < g2 h f z n i j (w ^^^ 2)
        · rw [if_neg (fun hc => absurd hc.2 (nle.mpr e2))] at hbs
          rw [if_pos e2, d_M_rests_223, on_s]
          exact ⟨b, V2, rfl, hbs.symm, hlt, rfl⟩
        · rw [if_pos ⟨nlt.mp e1, nlt.mp e2⟩] at hbs
          rw [if_neg e2, d_M_rests_223, on_s, t4]
          exact ⟨_, V2, rfl, hbs.symm, t3, rfl⟩
    · rintro k b V2 ⟨hb, hb2, rfl⟩
      show ∃ c : Int32 × ai_V, d_M_rests_158 (k + 1) (on b) (on 4) V2 = _ ∧ _
      have hb16 : b < 16 := hb2
      rw [d_M_rests_158, if_pos (by decide), ← hb]
      by_cases e : b = 0
      · subst e
        rw [if_pos (show on 0 = 0 from rfl)]
        exact ⟨_, rfl, rfl, by rw [rsR, if_pos rfl]; exact m_row0 V2⟩
      · have htz : tz b < 4 := by
          unfold tz
          by_cases a1 : b % 2 = 1
          · rw [if_pos a1]; omega
          · rw [if_neg a1]
            by_cases a2 : b / 2 % 2 = 1
            · rw [if_pos a2]; omega
            · rw [if_neg a2]
              by_cases a3 : b / 4 % 2 = 1
              · rw [if_pos a3]; omega
              · rw [if_neg a3]; omega
        obtain ⟨V3, e3, r3, F3⟩ := m_tell (m_row0 V2) (by simp) (g1 h f z n i j (tz b)).toInt64
        have F3' : Fr ([(89, 13)], [97]) V2 V3 := Fr.tr (Fr.si Fr.rf rfl) F3 rfl
        obtain ⟨V4, e4, r4, -⟩ := m_tell r3 (by simp) (g2 h f z n i j (tz b)).toInt64
        rw [if_neg (by rw [on_z (by omega)]; exact e), ntz_on b hb16 e, bd_some, show (2 : Int32) = on 2 from rfl, on_mul, on_s, if_pos (by rw [on_in (by omega)]; omega), on_nn (show 2 * tz b < 2147483648 by omega), ga_si, (hg _ htz).1, e3, bd_some, if_pos (by rw [on_in (by omega)]; omega), on_nn (by omega), F3'.ga 113 rfl, (hg _ htz).2, e4, bd_some]
        exact ⟨_, rfl, rfl, by rw [rsR, if_neg e]; exact r4⟩
theorem st_rests {N : Nat} {V : ai_V} (hI : Inv N V) (hN : N < 512) (x y v : Int32) : Step N V (d_X_rests x y v) (d_M_rests x y v) := by
  obtain ⟨h, f, z, rm, nw, kc, km, hS, hn, hb⟩ := hI.k
  have hO := kc.1
  have h6 := hO.1
  by_cases hxy : (0 ≤ x ∧ x < on (hm h)) ∧ (0 ≤ y ∧ y < on (hm h)) ∧ x ≠ y
  · obtain ⟨hx, hy, hne⟩ := hxy
    obtain ⟨i, hi, rfl⟩ := has_on hO hx
    obtain ⟨j, hj, rfl⟩ := has_on hO hy
    have hij : i ≠ j := fun e => hne (e ▸ rfl)
    by_cases hv : 1 ≤ v ∧ v ≤ 9
    · obtain ⟨V1, e1, c1⟩ := X_rests kc hS.2.1 hi hj hij hv
      have F1 : Fr w_X_rests V V1 := fr_X_rests _ _ _ _ _ e1
      obtain ⟨V2, e2, c2⟩ := M_rests (km.fr F1 rfl) (hS.2.2.1.fr F1 rfl) hi hj hij hv
      have F2 : Fr w_M_rests V1 V2 := fr_M_rests _ _ _ _ _ e2
      exact ⟨_, V1, V2, e1, e2, hI.qq F1 F2 rfl rfl rfl rfl (o := some _) (fun r hr => by
        obtain rfl := Option.some.inj hr
        unfold rsR
        by_cases e : rsB h f z v i j 4 = 0
        · rw [if_pos e]; simp
        · rw [if_neg e]; simp) c1 c2 (hI.x.fr2 F1 F2 rfl rfl)⟩
    · refine ⟨-1, V, si V 89 14 0, ?_, ?_, hI.no 0⟩
      · rw [d_X_rests, if_neg (on_ne_m1 (by omega)), if_neg (on_ne_m1 (by omega))]
        rcases canTread_eq hO kc.2.1 (on i) (on j) with ⟨q, -⟩ | ⟨q, -⟩
        · rw [q, bd_some, if_neg (by decide)]
          by_cases e : v < 1
          · rw [if_pos e]
          · rw [if_neg e, if_neg (fun e2 => hv ⟨nlt.mp e, e2⟩)]
        · rw [q, bd_some, if_pos rfl]
      · rw [d_M_rests, areTwo_eq hO (km.s14 0).2.1, bd_some, if_neg (by rw [tf_pos ⟨hx, hy, hne⟩]; decide), in_eq, bd_some, if_neg (fun hn => hn (tf_neg hv))]
  · refine ⟨-1, V, si V 89 14 0, ?_, ?_, hI.no 0⟩
    · rw [d_X_rests]
      by_cases e1 : y = -1
      · rw [if_pos e1]
      · rw [if_neg e1]
        by_cases e2 : x = -1
        · rw [if_pos e2]
        · rw [if_neg e2]
          rcases canTread_eq hO kc.2.1 x y with ⟨-, q⟩ | ⟨q, -⟩
          · unfold canT at q
            rw [if_neg e2] at q
            exact absurd ⟨q.1, q.2.2.resolve_left e1, q.2.1⟩ hxy
          · rw [q, bd_some, if_pos rfl]
    · rw [d_M_rests, areTwo_eq hO (km.s14 0).2.1, bd_some, if_pos (tf_neg hxy)]
