/-! ===== quarters of a question ===== -/
def KC (V : ai_V) (h : Hs) (f : Rf) : Prop := HO h ∧ CH V h ∧ CR V f ∧ CO V 9 (ordL (hst h) (hm h))
def KM (V : ai_V) (h : Hs) (f : Rf) : Prop := HO h ∧ MH V h ∧ MR V f ∧ SG V h (hst h)
theorem KC.fr {V V' : ai_V} {h : Hs} {f : Rf} {w : Fw} (k : KC V h f) (s : Fr w V V') (hd : fw_dis ([(3, 0), (3, 1), (3, 2), (10, 1)], [4, 5, 6, 7, 8, 9, 11]) w = true) : KC V' h f := by
  obtain ⟨k1, k2, k3, k4⟩ := k
  have t := Sm.of s hd
  refine ⟨k1, ?_, ?_, ?_⟩
  · unfold CH at *
    rw [t.i 3 0 rfl, t.i 3 1 rfl, t.i 3 2 rfl, t.a 4 rfl, t.a 5 rfl, t.a 6 rfl, t.a 7 rfl, t.a 8 rfl]; exact k2
  · unfold CR at *
    rw [t.i 10 1 rfl, t.a 11 rfl]; exact k3
  · unfold CO at *
    rw [t.a 9 rfl]; exact k4
theorem KM.fr {V V' : ai_V} {h : Hs} {f : Rf} {w : Fw} (k : KM V h f) (s : Fr w V V') (hd : fw_dis ([(89, 1), (89, 9), (89, 7), (89, 22), (89, 30), (89, 31)], [91, 92, 93, 94, 95, 99]) w = true) : KM V' h f := by
  obtain ⟨k1, k2, k3, k4⟩ := k
  have t := Sm.of s hd
  refine ⟨k1, ?_, ?_, ?_⟩
  · unfold MH at *
    rw [t.i 89 1 rfl, t.i 89 9 rfl, t.i 89 7 rfl, t.a 91 rfl, t.a 92 rfl, t.a 93 rfl, t.a 94 rfl, t.a 95 rfl]; exact k2
  · unfold MR at *
    rw [t.i 89 22 rfl, t.a 99 rfl]; exact k3
  · exact k4.of (t.i 89 30 rfl) (t.i 89 31 rfl)
theorem Inv.k {N : Nat} {V : ai_V} (hI : Inv N V) : ∃ h f z rm nw, KC V h f ∧ KM V h f ∧ IS N V h z rm ∧ z.1 = on nw ∧ nw ≤ 48 * N := by
  obtain ⟨h, f, z, rm, h1, ⟨a1, a2, a3, a4, -⟩, ⟨b1, b2⟩, h4, -, -, -, -, -, x1, x2, -⟩ := hI
  refine ⟨h, f, z, rm, z.1.toNatClampNeg, ⟨a1, a2, b1, a4⟩, ⟨a1, a3, b2, storey_eq a1 x1 x2⟩, h4, ?_, ?_⟩
  · exact (on_of (by rw [ti_le]; exact h4.1.1.1)).symm
  · have := h4.1.1.2
    have := ti_nn z.1
    omega
theorem mS.fr {V V' : ai_V} {z : Ss} {a b : Nat} {w : Fw} (hz : mS z V a b) (s : Fr w V V') (hd : fw_a a w.2 = false) : mS z V' a b := by
  unfold mS at *
  rw [s.ga a hd]; exact hz
theorem cS.fr {V V' : ai_V} {z : Ss} {o : Nat} {w : Fw} (hz : cS z V o) (s : Fr w V V') (d0 : fw_f o 0 w.1 = false) (d1 : fw_f o 1 w.1 = false) (d2 : fw_a (o + 1) w.2 = false) (d3 : fw_a (o + 2) w.2 = false) : cS z V' o := by
  unfold cS at *
  rw [s.gi o 0 d0, s.gi o 1 d1, s.ga _ d2, s.ga _ d3]; exact hz
def wC : Fw := ([(15, 2), (15, 3), (15, 4), (15, 5), (19, 0), (19, 1), (19, 2)], [12, 13, 20, 21])
def wM : Fw := ([(89, 14), (89, 15), (89, 16), (89, 17), (89, 18), (89, 19), (89, 23), (89, 24), (89, 25), (89, 26), (89, 27), (89, 28), (89, 29), (89, 32), (89, 33)], [103])
def tC (V0 V : ai_V) (z : Ss) (rm : Int32) (nw : Nat) : Prop := cS z V 19 ∧ gi V 19 2 = rm ∧ z.1 = on nw ∧ Fr wC V0 V
def tM (V0 V : ai_V) (z : Ss) (nw : Nat) : Prop := mS z V 103 0 ∧ z.1 = on nw ∧ Fr wM V0 V
abbrev lo (h : Hs) : List Nat := ordL (hst h) (hm h)
theorem tC_step {V0 V : ai_V} {h : Hs} {f : Rf} {z : Ss} {rm x y : Int32} {nw b : Nat} (K : KC V0 h f) (t : tC V0 V z rm nw) (hnw : nw < 2147483647) (hp : pr h x y b) :
    ∃ V', d_Wheel_pass_15_19 x y V = some V' ∧ tC V0 V' (qz h f (lo h) rm b z) rm (nw + 1) ∧ gi V' 15 2 = qlif h f b z ∧ gi V' 15 3 = qovr h f rm b z ∧ gi V' 15 4 = on (qT h f (lo h) rm b z).2 ∧ gi V' 15 5 = on (popc (qT h f (lo h) rm b z).2) := by
  obtain ⟨t1, t2, t3, t4⟩ := t
  obtain ⟨k1, k2, k3, k4⟩ := K.fr t4 rfl
  obtain ⟨V1, e1, a1, a2, a3, a4, a5⟩ := pass_19 k1 k2 k3 k4 hp t1 t2 t3 hnw
  have F1 : Fr w_Wheel_pass_15_19 V V1 := fr_Wheel_pass_15_19 _ _ _ _ e1
  exact ⟨V1, e1, ⟨a1, by rw [F1.gi 19 2 rfl, t2], by show z.1 + 1 = _; rw [t3, on_s], Fr.tr t4 F1 rfl⟩, a2, a3, a4, a5⟩
theorem tM_step {V0 V : ai_V} {h : Hs} {f : Rf} {z : Ss} {nw b : Nat} (K : KM V0 h f) (t : tM V0 V z nw) (hnw : nw < 2147483647) (hb : b < 2 ^ hm h) (rm : Int32) :
    ∃ V', d_M_goQuarter_89_103 (on b) rm V = some V' ∧ tM V0 V' (qz h f (lo h) rm b z) (nw + 1) ∧ gi V' 89 32 = qlif h f b z ∧ gi V' 89 33 = qovr h f rm b z ∧ gi V' 89 29 = on (qT h f (lo h) rm b z).2 := by
  obtain ⟨t1, t3, t4⟩ := t
  obtain ⟨k1, k2, k3, k4⟩ := K.fr t4 rfl
  obtain ⟨V1, e1, a1, a2, a3, a4⟩ := goQ_103 (rm := rm) k1 k2 k3 k4 hb t1 t3 hnw
  have F1 : Fr w_M_goQuarter_89_103 V V1 := fr_M_goQuarter_89_103 _ _ _ _ e1
  exact ⟨V1, e1, ⟨a1, by show z.1 + 1 = _; rw [t3, on_s], Fr.tr t4 F1 rfl⟩, a2, a3, a4⟩
theorem qT_lt {h : Hs} (hO : HO h) (f : Rf) (g : Nat → Int32) (rm : Int32) (b : Nat) (z : Ss) : (qT h f (ordL g (hm h)) rm b z).2 < 64 := by
  have h6 := hO.1
  exact (tk_bits h _ _ _ (fun j hj => by have := ordL_mem hj; omega)).1
theorem pr_no (h : Hs) : pr h (-1) (-1) 0 := Or.inl ⟨rfl, rfl, rfl⟩
theorem pr_one {h : Hs} {i : Nat} (hi : i < hm h) : pr h (on i) (-1) (2 ^ i) := Or.inr (Or.inl ⟨i, hi, rfl, rfl, rfl⟩)
theorem pw_lt2 {m i : Nat} (hi : i < m) : 2 ^ i < 2 ^ m := Nat.pow_lt_pow_right (by decide) hi
theorem pw_pos (m : Nat) : 0 < 2 ^ m := Nat.pow_pos (by decide)
theorem sh_on {i : Nat} (hi : i < 7) : (1 : Int32) <<< (on i &&& 31) = on (2 ^ i) := pw_eq i hi
theorem start_C {N : Nat} {V : ai_V} {h : Hs} {z : Ss} {rm : Int32} {nw : Nat} (hS : IS N V h z rm) (hn : z.1 = on nw) : ∃ V', d_X_asked V = some V' ∧ tC V V' z rm nw := by
  obtain ⟨V1, e1, a1, a2, a3⟩ := asked_eq hS
  exact ⟨V1, e1, a1, a2, hn, Fr.tr Fr.rf a3 rfl⟩
theorem start_M {N : Nat} {V V1 : ai_V} {h : Hs} {z : Ss} {rm : Int32} {nw : Nat} {w : Fw} (hS : IS N V h z rm) (hn : z.1 = on nw) (F : Fr w V V1) (hd : fw_a 90 w.2 = false) (x : Int32) : ∃ V', d_M_lay_90_103 (0 : Int32) (si V1 89 14 x) = some V' ∧ tM V1 V' z nw := by
  have F0 : Fr wM V1 (si V1 89 14 x) := Fr.si Fr.rf rfl
  obtain ⟨V2, e2, a1, a2⟩ := laid_eq ((hS.2.2.1.fr F hd).fr F0 rfl)
  exact ⟨V2, e2, a1, hn, Fr.tr F0 a2 rfl⟩
theorem m14 (V : ai_V) (x : Int32) (o k : Nat) (hk : ¬ (o = 89 ∧ k = 14)) : gi (si V 89 14 x) o k = gi V o k := by rw [gi_si, if_neg hk]
theorem on_z {b : Nat} (hb : b < 2147483648) : (on b = 0) = (b = 0) := by
  rw [show (0 : Int32) = on 0 from rfl, on_inj hb (by omega)]
/-! lasts -/
def lastsP (h : Hs) (f : Rf) (rm : Int32) (z : Ss) : Ss ⊕ (Nat × Nat) := foe (fun _ z => qz h f (lo h) rm 0 z) (fun i z => if (qT h f (lo h) rm 0 z).2 = 0 then none else some (i, (qT h f (lo h) rm 0 z).2)) 99 0 z
def lastsV : Ss ⊕ (Nat × Nat) → Int32
  | .inl _ => -2
  | .inr r => on r.1
def lastsR : Ss ⊕ (Nat × Nat) → Option (List Int64)
  | .inl _ => none
  | .inr r => some [(on r.2).toInt64]
theorem X_lasts {N : Nat} {V : ai_V} {h : Hs} {f : Rf} {z : Ss} {rm : Int32} {nw : Nat} (K : KC V h f) (hS : IS N V h z rm) (hn : z.1 = on nw) (hb : nw < 2000000) :
    ∃ b : Int32 × ai_V, d_X_lasts V = some b ∧ b.1 = lastsV (lastsP h f rm z) ∧ cRo V b.2 (lastsR (lastsP h f rm z)) := by
  obtain ⟨V1, e1, t1⟩ := start_C hS hn
  rw [d_X_lasts, e1, bd_some]
  refine loop_g (fun n (_ : Ss) x V => d_X_lasts_7 n x V) _ _ (fun i z V' => tC V V' z rm (nw + i)) (fun r b => b.1 = lastsV r ∧ cRo V b.2 (lastsR r)) 99 ?_ ?_ 99 0 ai_N z V1 (by omega) (N_gt (by omega)) t1
  · intro n a i V2 hi hP
    obtain ⟨V3, e3, t3, -, -, b4, -⟩ := tC_step K hP (by omega) (pr_no h)
    have hlt : (qT h f (lo h) rm 0 a).2 < 64 := qT_lt K.1 f (hst h) rm 0 a
    have h99 : ¬ (99 : Int32) ≤ on i := by rw [show (99 : Int32) = on 99 from rfl, on_le (by omega) (by omega)]; omega
    by_cases hz : (qT h f (lo h) rm 0 a).2 = 0
    · refine ⟨fun _ => ?_, fun r hc => ?_⟩
      · show ∃ V', d_X_lasts_7 (n + 1) (on i) V2 = _ ∧ _
        rw [d_X_lasts_7, if_neg h99, e3, bd_some, b4, if_pos (by rw [hz]; rfl), on_s]
        exact ⟨V3, rfl, t3⟩
      · skip
        rw [if_pos hz] at hc; cases hc
    · refine ⟨fun hc => ?_, fun r hc => ?_⟩
      · skip
        rw [if_neg hz] at hc; cases hc
      · skip
        rw [if_neg hz] at hc
        obtain rfl := Option.some.inj hc
        obtain ⟨V4, e4, c4, F4⟩ := tell1 ((on (qT h f (lo h) rm 0 a).2).toInt64) V3
        show ∃ b, d_X_lasts_7 (n + 1) (on i) V2 = _ ∧ _
        rw [d_X_lasts_7, if_neg h99, e3, bd_some, b4, if_neg (by rw [on_z (by omega)]; exact hz), e4, bd_some]
        exact ⟨_, rfl, rfl, c4⟩
  · intro n a V2 hP
    show ∃ b, d_X_lasts_7 (n + 1) (on 99) V2 = _ ∧ _
    rw [d_X_lasts_7, if_pos (by decide)]
    exact ⟨_, rfl, rfl, cRo.no hP.2.2.2 rfl⟩
theorem M_lasts {N : Nat} {V V1 : ai_V} {h : Hs} {f : Rf} {z : Ss} {rm : Int32} {nw : Nat} {w : Fw} (K : KM V1 h f) (hS : IS N V h z rm) (hn : z.1 = on nw) (hb : nw < 2000000) (F : Fr w V V1) (hd : fw_a 90 w.2 = false) (h8 : gi V1 89 8 = rm) :
    ∃ b : Int32 × ai_V, d_M_lasts V1 = some b ∧ b.1 = lastsV (lastsP h f rm z) ∧ mRo V1 b.2 (lastsR (lastsP h f rm z)) := by
  obtain ⟨V2, e1, t1⟩ := start_M hS hn F hd 0
  rw [d_M_lasts, e1, bd_some]
  refine loop_g (fun n (_ : Ss) x V => d_M_lasts_19 n x V) _ _ (fun i z V' => tM V1 V' z (nw + i)) (fun r b => b.1 = lastsV r ∧ mRo V1 b.2 (lastsR r)) 99 ?_ ?_ 99 0 ai_N z V2 (by omega) (N_gt (by omega)) t1
  · intro n a i V2 hi hP
    obtain ⟨V3, e3, t3, -, -, b4⟩ := tM_step K hP (by omega) (pw_pos _) rm
    have hlt : (qT h f (lo h) rm 0 a).2 < 64 := qT_lt K.1 f (hst h) rm 0 a
    have h99 : ¬ (99 : Int32) ≤ on i := by rw [show (99 : Int32) = on 99 from rfl, on_le (by omega) (by omega)]; omega
    have e3' : d_M_goQuarter_89_103 0 rm V2 = some V3 := e3
    by_cases hz : (qT h f (lo h) rm 0 a).2 = 0
    · refine ⟨fun _ => ?_, fun r hc => ?_⟩
      · show ∃ V', d_M_lasts_19 (n + 1) (on i) V2 = _ ∧ _
        rw [d_M_lasts_19, if_neg h99, hP.2.2.gi 89 8 rfl, h8, e3', bd_some, b4, if_neg (by rw [hz]; exact fun hn => hn rfl), on_s]
        exact ⟨V3, rfl, t3⟩
      · skip
        rw [if_pos hz] at hc; cases hc
    · refine ⟨fun hc => ?_, fun r hc => ?_⟩
      · skip
        rw [if_neg hz] at hc; cases hc
      · skip
        rw [if_neg hz] at hc
        obtain rfl := Option.some.inj hc
        obtain ⟨V4, e4, c4, F4⟩ := m_tell (m_row0 V3) (by simp) ((on (qT h f (lo h) rm 0 a).2).toInt64)
        show ∃ b, d_M_lasts_19 (n + 1) (on i) V2 = _ ∧ _
        rw [d_M_lasts_19, if_neg h99, hP.2.2.gi 89 8 rfl, h8, e3', bd_some, b4, if_pos (by rw [on_z (by omega)]; exact hz), gi_si, if_neg (by decide), b4, e4, bd_some]
        exact ⟨_, rfl, rfl, c4⟩
  · intro n a V2 hP
    show ∃ b, d_M_lasts_19 (n + 1) (on 99) V2 = _ ∧ _
    rw [d_M_lasts_19, if_pos (by decide)]
    exact ⟨_, rfl, rfl, mRo.no hP.2.2 rfl⟩
theorem st_lasts {N : Nat} {V : ai_V} (hI : Inv N V) (hN : N < 512) : Step N V d_X_lasts d_M_lasts := by
  obtain ⟨h, f, z, rm, nw, kc, km, hS, hn, hb⟩ := hI.k
  obtain ⟨⟨v, V1⟩, e1, hv, c1⟩ := X_lasts kc hS hn (by omega)
  have F1 : Fr w_X_lasts V V1 := fr_X_lasts _ _ e1
  obtain ⟨⟨v', V2⟩, e2, hv', c2⟩ := M_lasts (km.fr F1 rfl) hS hn (by omega) F1 rfl (by rw [F1.gi 89 8 rfl]; exact hS.2.2.2.2.1)
  have F2 : Fr w_M_lasts V1 V2 := fr_M_lasts _ _ e2
  simp only at hv hv'
  subst hv hv'
  refine ⟨_, V1, V2, e1, e2, hI.qq F1 F2 rfl rfl rfl rfl (fun r hr => ?_) c1 c2 (hI.x.fr2 F1 F2 rfl rfl)⟩
  cases e : lastsP h f rm z with
  | inl a => rw [e] at hr; cases hr
  | inr a => rw [e] at hr; obtain rfl := Option.some.inj hr; simp
