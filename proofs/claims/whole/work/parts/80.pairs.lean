/-! ===== step, enough ===== -/
theorem pr_two {h : Hs} {i j : Nat} (hi : i < hm h) (hj : j < hm h) (hn : i ≠ j) : pr h (on i) (on j) (2 ^ i ||| 2 ^ j) := Or.inr (Or.inr ⟨i, j, hi, hj, hn, rfl, rfl, rfl⟩)
theorem lfo_1 {h : Hs} (hO : HO h) (f : Rf) {i : Nat} (hi : i < hm h) (z : Ss) : lfo h f (on i) (2 ^ i) z.2.1 (q12 z.1) (hbr h) = L1 h f z i := by
  have h6 := hO.1
  rw [L1, qlif, LA_one hO f hi, lfo, if_neg (on_ne_m1 (by omega)), on_nn (by omega)]
abbrev L2 (h : Hs) (f : Rf) (z : Ss) (i k : Nat) : Int32 := qlif h f (2 ^ i ||| 2 ^ k) z
def stV : Option Nat → Int32 := ob (-2)
def stR (h : Hs) (f : Rf) (z : Ss) (i : Nat) : Option Nat → Option (List Int64)
  | none => none
  | some k => some [(L2 h f z i k).toInt64, (L1 h f z i + L1 h f z k - L2 h f z i k).toInt64]
theorem X_step {V : ai_V} {h : Hs} {f : Rf} {z : Ss} {i : Nat} (K : KC V h f) (hz : cS z V 16) (hi : i < hm h) :
    ∃ V', d_X_step (on i) V = some (stV (sb (L2 h f z i) (fun k => k ≠ i) (hm h)), V') ∧ cRo V V' (stR h f z i (sb (L2 h f z i) (fun k => k ≠ i) (hm h))) := by
  have h6 := K.1.1
  rw [d_X_step, has_eq K.2.1, bd_some, if_pos (by rw [tf_pos (on_has K.1 hi)]; decide)]
  have := loop_n (fun n (a : Option Nat) x V => d_X_step_20 n (on i) (ob (-1) a) (mo (L2 h f z i) a) x V) (fun c : Int32 × ai_V => some c)
    (fun k a V' => a = sb (L2 h f z i) (fun k => k ≠ i) k ∧ Fr w_Wheel_pails V V') (fun c => c.1 = stV (sb (L2 h f z i) (fun k => k ≠ i) (hm h)) ∧ cRo V c.2 (stR h f z i (sb (L2 h f z i) (fun k => k ≠ i) (hm h)))) (hm h) ?_ ?_ (hm h) 0 ai_N none V (by omega) (N_gt (by omega)) ⟨rfl, Fr.rf⟩
  · obtain ⟨⟨c1, c2⟩, e, q1, q2⟩ := this
    simp only at q1 q2
    subst q1
    exact ⟨c2, e, q2⟩
  · rintro n a k V1 hk ⟨ha, hF⟩
    have K1 := K.fr hF rfl
    have z1 := hz.fr hF rfl rfl rfl rfl
    show ∃ (a' : Option Nat) (V' : ai_V), d_X_step_20 (n + 1) (on i) (ob (-1) a) (mo (L2 h f z i) a) (on k) V1 = _ ∧ _
    have hss := sb_s (L2 h f z i) (fun k => k ≠ i) k
    rw [← ha] at hss
    have hsome := (sb_some (L := L2 h f z i) (p := fun k => k ≠ i) (m := k)).1
    have hC := sb_C (L := L2 h f z i) (p := fun k => k ≠ i) (i := k) (o := a) (fun j hj => (qlif_2 K.1 f hi (by have := (hsome j (ha ▸ hj)).1; omega) (Ne.symm (hsome j (ha ▸ hj)).2) z).1) (fun hne => (qlif_2 K.1 f hi hk (Ne.symm hne) z).1)
    have fin : ∀ V2, Fr w_Wheel_pails V V2 → ∃ (a' : Option Nat) (V' : ai_V), d_X_step_56 (d_X_step_20 n) (on i) (ob (-1) a) (mo (L2 h f z i) a) (on k) (if k ≠ i then L2 h f z i k else -1) V2 = d_X_step_20 n (on i) (ob (-1) a') (mo (L2 h f z i) a') (on (k + 1)) V' ∧ a' = sb (L2 h f z i) (fun k => k ≠ i) (k + 1) ∧ Fr w_Wheel_pails V V' := by
      intro V2 F2
      rw [d_X_step_56]
      by_cases e : (if k ≠ i then L2 h f z i k else -1) ≤ mo (L2 h f z i) a
      · rw [if_pos e, d_X_step_70, on_s]
        exact ⟨a, V2, rfl, by rw [hss, hC.1 e], F2⟩
      · obtain ⟨q1, q2⟩ := hC.2 e
        rw [if_neg e, d_X_step_70, on_s, if_pos q1]
        exact ⟨some k, V2, rfl, by rw [hss, q2], F2⟩
    rw [d_X_step_20, K1.2.1.1, if_neg (by rw [on_le (by omega) (by omega)]; omega)]
    by_cases e : k = i
    · rw [if_neg (fun hn => hn (by rw [e]))]
      have q := fin V1 hF
      rw [if_neg (fun hn => hn e)] at q
      exact q
    · obtain ⟨V2, e2, F2⟩ := tog_1 K1 z1 (pr_two hi hk (Ne.symm e))
      rw [if_pos (by rw [on_inj (by omega) (by omega)]; exact e), e2, bd_some]
      have q := fin V2 (Fr.tr hF F2 rfl)
      rw [if_pos e] at q
      exact q
  · rintro n a V1 ⟨ha, hF⟩
    have K1 := K.fr hF rfl
    have z1 := hz.fr hF rfl rfl rfl rfl
    have hsome := (sb_some (L := L2 h f z i) (p := fun k => k ≠ i) (m := hm h)).1
    show ∃ c : Int32 × ai_V, d_X_step_20 (n + 1) (on i) (ob (-1) a) (mo (L2 h f z i) a) (on (hm h)) V1 = _ ∧ _
    rw [d_X_step_20, K1.2.1.1, if_pos (Int32.le_refl _), ← ha]
    cases ea : a with
    | none =>
      rw [if_neg (fun hn => hn rfl)]
      exact ⟨(-2, V1), rfl, rfl, cRo.no hF rfl⟩
    | some k =>
      have hk := (hsome k (ha ▸ ea)).1
      obtain ⟨V2, e2, F2⟩ := pn_1 K1 z1 (pr_one hi)
      obtain ⟨V3, e3, F3⟩ := pn_1 (K1.fr F2 rfl) (z1.fr F2 rfl rfl rfl rfl) (pr_one hk)
      obtain ⟨V4, e4, c4, -⟩ := tell2 (L2 h f z i k).toInt64 (L1 h f z i + L1 h f z k - L2 h f z i k).toInt64 V3
      rw [lfo_1 K.1 f hi] at e2
      rw [lfo_1 K.1 f hk] at e3
      rw [show ob (-1) (some k) = on k from rfl, if_pos (on_ne_m1 (by omega)), e2, bd_some]
      show ∃ c : Int32 × ai_V, ((d_Wheel_pailsNow (on k) (-1) V2).bind _) = _ ∧ _
      rw [e3, bd_some]
      show ∃ c : Int32 × ai_V, ((d_Row_tellTwo (L2 h f z i k).toInt64 (L1 h f z i + L1 h f z k - L2 h f z i k).toInt64 V3).bind _) = _ ∧ _
      rw [e4, bd_some]
      exact ⟨_, rfl, rfl, c4⟩
theorem M_step {V : ai_V} {h : Hs} {f : Rf} {z : Ss} {i : Nat} (K : KM V h f) (hz : mS z V 90 0) (hi : i < hm h) :
    ∃ V', d_M_step (on i) V = some (stV (sb (L2 h f z i) (fun k => k ≠ i) (hm h)), V') ∧ mRo V V' (stR h f z i (sb (L2 h f z i) (fun k => k ≠ i) (hm h))) := by
  have h6 := K.1.1
  have hw : ∀ V', Fr wM V V' → KM V' h f ∧ mS z V' 90 0 := fun V' F => ⟨K.fr F rfl, hz.fr F rfl⟩
  have h64 : ∀ k, k < 6 → 2 ^ i ||| 2 ^ k < 64 := fun k hk => or_lt _ (pw_lt i (by omega)) k hk
  rw [d_M_step, isOne_eq K.1 (K.s14 0).2.1, bd_some, if_pos (by rw [tf_pos (on_has K.1 hi)]; decide)]
  have := loop_n (fun n (a : Option Nat) x V => d_M_step_20 n (on i) (ob (-2) a) x V) (fun c : Int32 × ai_V => some c)
    (fun k a V' => a = sb (L2 h f z i) (fun k => k ≠ i) k ∧ Fr wM V V') (fun c => c.1 = stV (sb (L2 h f z i) (fun k => k ≠ i) (hm h)) ∧ mRo V c.2 (stR h f z i (sb (L2 h f z i) (fun k => k ≠ i) (hm h)))) (hm h) ?_ ?_ (hm h) 0 ai_N none (si V 89 14 0) (by omega) (N_gt (by omega)) ⟨rfl, Fr.si Fr.rf rfl⟩
  · obtain ⟨⟨c1, c2⟩, e, q1, q2⟩ := this
    simp only at q1 q2
    subst q1
    exact ⟨c2, e, q2⟩
  · rintro n a k V1 hk ⟨ha, hF⟩
    obtain ⟨K1, z1⟩ := hw V1 hF
    show ∃ (a' : Option Nat) (V' : ai_V), d_M_step_20 (n + 1) (on i) (ob (-2) a) (on k) V1 = _ ∧ _
    have hss := sb_s (L2 h f z i) (fun k => k ≠ i) k
    rw [← ha] at hss
    unfold sbS at hss
    have hsome := (sb_some (L := L2 h f z i) (p := fun k => k ≠ i) (m := k)).1
    rw [d_M_step_20, K1.2.1.1, if_neg (by rw [on_le (by omega) (by omega)]; omega)]
    by_cases e : k = i
    · rw [if_neg (fun hn => hn e)] at hss
      rw [if_pos (by rw [e]), d_M_step_64, on_s]
      exact ⟨a, V1, rfl, hss.symm, hF⟩
    · rw [if_pos e] at hss
      rw [if_neg (by rw [on_inj (by omega) (by omega)]; exact e)]
      cases ea : a with
      | none =>
        rw [ea] at hss
        rw [if_pos (by decide), d_M_step_62, d_M_step_64, on_s]
        exact ⟨some k, V1, rfl, hss.symm, hF⟩
      | some k0 =>
        rw [ea] at hss
        have hk0 := (hsome k0 (ha ▸ ea)).1
        obtain ⟨V2, e2, F2⟩ := mn_eq K1 z1 (h64 k (by omega))
        have F2' : Fr wM V V2 := Fr.tr hF F2 rfl
        obtain ⟨K2, z2⟩ := hw V2 F2'
        obtain ⟨V3, e3, F3⟩ := mn_eq K2 z2 (h64 k0 (by omega))
        have F3' : Fr wM V V3 := Fr.tr F2' F3 rfl
        rw [show ob (-2) (some k0) = on k0 from rfl, if_neg (by rw [on_n0 (by omega)]; exact id), or_pw i (by omega) k (by omega), e2, bd_some, or_pw i (by omega) k0 (by omega)]
        show ∃ (a' : Option Nat) (V' : ai_V), ((d_M_liftNow (on (2 ^ i ||| 2 ^ k0)) V2).bind _) = _ ∧ _
        rw [e3, bd_some]
        simp only at hss ⊢
        by_cases e4 : L2 h f z i k ≤ L2 h f z i k0
        · rw [if_pos e4] at hss
          rw [if_pos e4, d_M_step_64, on_s]
          exact ⟨some k0, V3, rfl, hss.symm, F3'⟩
        · rw [if_neg e4] at hss
          rw [if_neg e4, d_M_step_62, d_M_step_64, on_s]
          exact ⟨some k, V3, rfl, hss.symm, F3'⟩
  · rintro n a V1 ⟨ha, hF⟩
    obtain ⟨K1, z1⟩ := hw V1 hF
    have hsome := (sb_some (L := L2 h f z i) (p := fun k => k ≠ i) (m := hm h)).1
    show ∃ c : Int32 × ai_V, d_M_step_20 (n + 1) (on i) (ob (-2) a) (on (hm h)) V1 = _ ∧ _
    rw [d_M_step_20, K1.2.1.1, if_pos (Int32.le_refl _), ← ha]
    cases ea : a with
    | none =>
      rw [if_neg (by decide)]
      exact ⟨(-2, V1), rfl, rfl, mRo.no hF rfl⟩
    | some k =>
      have hk := (hsome k (ha ▸ ea)).1
      obtain ⟨V2, e2, F2⟩ := mn_eq K1 z1 (h64 k (by omega))
      obtain ⟨V3, e3, c3, F3⟩ := m_tell (m_row0 V2) (by simp) (L2 h f z i k).toInt64
      have F3' : Fr ([(89, 14), (89, 15), (89, 16), (89, 17), (89, 18), (89, 19), (89, 23), (89, 24), (89, 25), (89, 26), (89, 27), (89, 28), (89, 29), (89, 32), (89, 33), (89, 13)], [103, 97]) V V3 := Fr.tr (Fr.si (Fr.tr (Fr.tr Fr.rf hF rfl) F2 rfl) rfl) F3 rfl
      have K3 := K.fr F3' rfl
      have z3 := hz.fr F3' rfl
      obtain ⟨V4, e4, F4⟩ := mn_eq K3 z3 (pw_lt i (by omega))
      obtain ⟨V5, e5, F5⟩ := mn_eq (K3.fr F4 rfl) (z3.fr F4 rfl) (pw_lt k (by omega))
      obtain ⟨V6, e6, c6, -⟩ := m_tell ((c3.fr F4 rfl).fr F5 rfl) (by simp) (L1 h f z i + L1 h f z k - L2 h f z i k).toInt64
      rw [show ob (-2) (some k) = on k from rfl, if_pos (on_ge0 (by omega)), or_pw i (by omega) k (by omega), e2, bd_some]
      show ∃ c : Int32 × ai_V, ((d_M_tell (L2 h f z i k).toInt64 (si V2 89 13 0)).bind _) = _ ∧ _
      rw [e3, bd_some, sh_on (by omega), e4, bd_some, sh_on (by omega)]
      show ∃ c : Int32 × ai_V, ((d_M_liftNow (on (2 ^ k)) V4).bind _) = _ ∧ _
      rw [e5, bd_some]
      show ∃ c : Int32 × ai_V, ((d_M_tell (L1 h f z i + L1 h f z k - L2 h f z i k).toInt64 V5).bind _) = _ ∧ _
      rw [e6, bd_some]
      exact ⟨_, rfl, rfl, c6⟩
theorem st_step {N : Nat} {V : ai_V} (hI : Inv N V) (hN : N < 512) (x : Int32) : Step N V (d_X_step x) (d_M_step x) := by
  obtain ⟨h, f, z, rm, nw, kc, km, hS, hn, hb⟩ := hI.k
  rcases hasX kc.1 x with ⟨i, hi, rfl⟩ | hx
  · obtain ⟨V1, e1, c1⟩ := X_step kc hS.2.1 hi
    have F1 : Fr w_X_step V V1 := fr_X_step _ _ _ e1
    obtain ⟨V2, e2, c2⟩ := M_step (km.fr F1 rfl) (hS.2.2.1.fr F1 rfl) hi
    have F2 : Fr w_M_step V1 V2 := fr_M_step _ _ _ e2
    refine ⟨_, V1, V2, e1, e2, hI.qq F1 F2 rfl rfl rfl rfl (fun r hr => ?_) c1 c2 (hI.x.fr2 F1 F2 rfl rfl)⟩
    cases e : sb (L2 h f z i) (fun k => k ≠ i) (hm h) with
    | none => rw [e] at hr; cases hr
    | some k => rw [e] at hr; obtain rfl := Option.some.inj hr; simp
  · refine ⟨-1, V, si V 89 14 0, ?_, ?_, hI.no 0⟩
    · rw [d_X_step, has_eq kc.2.1, bd_some, if_neg (fun hn => hn (tf_neg hx))]
    · rw [d_M_step, isOne_eq km.1 (km.s14 0).2.1, bd_some, if_neg (fun hn => hn (tf_neg hx))]
/-! enough -/
abbrev Es : Type := Nat × Int32 × Option (Nat × Nat)
def eS (h : Hs) (f : Rf) (z : Ss) (v : Int32) (a b : Nat) (s : Es) : Es := (if L2 h f z a b < v then s.1 else s.1 + 1, ai_max s.2.1 (L2 h f z a b), if L2 h f z a b < v then s.2.2 else if s.1 = 0 then some (a, b) else s.2.2)
def eI (h : Hs) (f : Rf) (z : Ss) (v : Int32) (a k : Nat) (s : Es) : Es := fo (fun b s => eS h f z v a b s) k (a + 1) s
def eO (h : Hs) (f : Rf) (z : Ss) (v : Int32) (k : Nat) : Es := fo (fun a s => eI h f z v a (hm h - (a + 1)) s) k 0 (0, -1, none)
def eR : Option (Nat × Nat) → List Int64
  | none => []
  | some p => [(on p.1).toInt64, (on p.2).toInt64]
theorem eI_s (h : Hs) (f : Rf) (z : Ss) (v : Int32) (a k : Nat) (s : Es) : eI h f z v a (k + 1) s = eS h f z v a (a + 1 + k) (eI h f z v a k s) := fo_s _ _ _ _
theorem eO_s (h : Hs) (f : Rf) (z : Ss) (v : Int32) (k : Nat) : eO h f z v (k + 1) = eI h f z v k (hm h - (k + 1)) (eO h f z v k) := by
  unfold eO; rw [fo_s, Nat.zero_add]
/-- what must be of the pairs found -/
def eOk (s : Es) : Prop := s.1 < 1000 ∧ (s.1 = 0 ↔ s.2.2 = none)
theorem eS_ok {h : Hs} {f : Rf} {z : Ss} {v : Int32} {a b : Nat} {s : Es} (hs : s.1 = 0 ↔ s.2.2 = none) : ((eS h f z v a b s).1 = 0 ↔ (eS h f z v a b s).2.2 = none) ∧ (eS h f z v a b s).1 ≤ s.1 + 1 := by
  unfold eS
  by_cases e : L2 h f z a b < v
  · simp only [if_pos e]; exact ⟨hs, by omega⟩
  · simp only [if_neg e]
    refine ⟨?_, by omega⟩
    by_cases e2 : s.1 = 0
    · rw [if_pos e2]; simp
    · rw [if_neg e2]
      constructor
      · intro h; omega
      · intro h; exact absurd (hs.mpr h) e2
theorem X_enough {V : ai_V} {h : Hs} {f : Rf} {z : Ss} {v : Int32} (K : KC V h f) (hz : cS z V 16) (hv : 0 ≤ v ∧ v ≤ 198) :
    ∃ V', d_X_enough v V = some (on (eO h f z v (hm h)).1, V') ∧ cRow V' (eR (eO h f z v (hm h)).2.2 ++ [(eO h f z v (hm h)).2.1.toInt64]) := by
  have h6 := K.1.1
  obtain ⟨q1, q2⟩ := row_clear V
  rw [d_X_enough, if_neg (nlt.mpr hv.1), if_pos hv.2, q1, bd_some]
  have wX : Fw := ([(22, 1)], [12, 13, 23])
  have := loop_n (fun n (s : Es) x V => d_X_enough_27 n v (on s.1) s.2.1 x V) (fun c : Int32 × ai_V => some c)
    (fun a s V' => s = eO h f z v a ∧ (s.1 = 0 ↔ s.2.2 = none) ∧ s.1 ≤ 6 * a ∧ cRow V' (eR s.2.2) ∧ Fr ([(22, 1)], [12, 13, 23]) V V')
    (fun c => c.1 = on (eO h f z v (hm h)).1 ∧ cRow c.2 (eR (eO h f z v (hm h)).2.2 ++ [(eO h f z v (hm h)).2.1.toInt64])) (hm h) ?_ ?_ (hm h) 0 ai_N (0, -1, none) _ (by omega) (N_gt (by omega)) ⟨rfl, by simp, by simp, q2, Fr.si Fr.rf rfl⟩
  · obtain ⟨⟨c1, c2⟩, e, q1, q2⟩ := this
    simp only at q1 q2
    subst q1
    exact ⟨c2, e, q2⟩
  · rintro n s a V1 ha ⟨hs, hs0, hs6, hr, hF⟩
    show ∃ (s' : Es) (V' : ai_V), d_X_enough_27 (n + 1) v (on s.1) s.2.1 (on a) V1 = _ ∧ _
    rw [d_X_enough_27, hF.gi 3 0 rfl, K.2.1.1, if_neg (by rw [on_le (by omega) (by omega)]; omega), on_s]
    have inner := loop_n (fun k (t : Es) x V => d_X_enough_45 (d_X_enough_27 n) k v (on t.1) t.2.1 (on a) x V) (fun c : Es × ai_V => d_X_enough_27 n v (on c.1.1) c.1.2.1 (on (a + 1)) c.2)
      (fun b t V' => a + 1 ≤ b ∧ t = eI h f z v a (b - (a + 1)) s ∧ (t.1 = 0 ↔ t.2.2 = none) ∧ t.1 ≤ s.1 + (b - (a + 1)) ∧ cRow V' (eR t.2.2) ∧ Fr ([(22, 1)], [12, 13, 23]) V V')
      (fun c => c.1 = eO h f z v (a + 1) ∧ (c.1.1 = 0 ↔ c.1.2.2 = none) ∧ c.1.1 ≤ 6 * (a + 1) ∧ cRow c.2 (eR c.1.2.2) ∧ Fr ([(22, 1)], [12, 13, 23]) V c.2) (hm h) ?_ ?_ (hm h - (a + 1)) (a + 1) ai_N s V1 (by omega) (N_gt (by omega)) ⟨Nat.le_refl _, by rw [Nat.sub_self]; rfl, hs0, by omega, hr, hF⟩
    · obtain ⟨c, e, q⟩ := inner
      exact ⟨c.1, c.2, e, q⟩
    · rintro k t b V2 hb ⟨hb1, ht, ht0, ht6, hr2, hF2⟩
      have K2 := K.fr hF2 rfl
      have z2 := hz.fr hF2 rfl rfl rfl rfl
      obtain ⟨V3, e3, F3⟩ := tog_1 K2 z2 (pr_two ha hb (by omega))
      have F3' : Fr ([(22, 1)], [12, 13, 23]) V V3 := Fr.tr hF2 F3 rfl
      have r3 := hr2.fr F3 rfl
      show ∃ (t' : Es) (V' : ai_V), d_X_enough_45 (d_X_enough_27 n) (k + 1) v (on t.1) t.2.1 (on a) (on b) V2 = _ ∧ _
      rw [d_X_enough_45, K2.2.1.1, if_neg (by rw [on_le (by omega) (by omega)]; omega), e3, bd_some, on_s]
      have hes : eI h f z v a (b + 1 - (a + 1)) s = eS h f z v a b t := by
        rw [show b + 1 - (a + 1) = (b - (a + 1)) + 1 by omega, eI_s, show a + 1 + (b - (a + 1)) = b by omega, ← ht]
      have hok := eS_ok (h := h) (f := f) (z := z) (v := v) (a := a) (b := b) ht0
      have fin : ∀ V4, cRow V4 (eR (eS h f z v a b t).2.2) → Fr ([(22, 1)], [12, 13, 23]) V V4 → ∃ (t' : Es) (V' : ai_V), d_X_enough_45 (d_X_enough_27 n) k v (on (eS h f z v a b t).1) (eS h f z v a b t).2.1 (on a) (on (b + 1)) V4 = d_X_enough_45 (d_X_enough_27 n) k v (on t'.1) t'.2.1 (on a) (on (b + 1)) V' ∧ a + 1 ≤ b + 1 ∧ t' = eI h f z v a (b + 1 - (a + 1)) s ∧ (t'.1 = 0 ↔ t'.2.2 = none) ∧ t'.1 ≤ s.1 + (b + 1 - (a + 1)) ∧ cRow V' (eR t'.2.2) ∧ Fr ([(22, 1)], [12, 13, 23]) V V' :=
        fun V4 r4 F4 => ⟨eS h f z v a b t, V4, rfl, by omega, hes.symm, hok.1, by have := hok.2; omega, r4, F4⟩
      by_cases e4 : L2 h f z a b < v
      · have e5 : eS h f z v a b t = (t.1, ai_max t.2.1 (L2 h f z a b), t.2.2) := by unfold eS; simp only [if_pos e4]
        rw [if_pos e4, d_X_enough_108, on_s]
        have := fin V3 (by rw [e5]; exact r3) F3'
        rw [e5] at this; exact this
      · rw [if_neg e4]
        by_cases e6 : t.1 = 0
        · have e5 : eS h f z v a b t = (t.1 + 1, ai_max t.2.1 (L2 h f z a b), some (a, b)) := by unfold eS; simp only [if_neg e4, if_pos e6]
          obtain ⟨V4, g4, r4, F4⟩ := tell2 (on a).toInt64 (on b).toInt64 V3
          rw [if_neg (by rw [e6]; exact fun hn => hn rfl), g4, bd_some, d_X_enough_108, on_s]
          have := fin V4 (by rw [e5]; exact r4) (Fr.tr F3' F4 rfl)
          rw [e5] at this; exact this
        · have e5 : eS h f z v a b t = (t.1 + 1, ai_max t.2.1 (L2 h f z a b), t.2.2) := by unfold eS; simp only [if_neg e4, if_neg e6]
          rw [if_pos (by rw [one_on, on_inj (by omega) (by omega)]; omega), d_X_enough_108, on_s]
          have := fin V3 (by rw [e5]; exact r3) F3'
          rw [e5] at this; exact this
    · rintro k t V2 ⟨hb1, ht, ht0, ht6, hr2, hF2⟩
      show ∃ c : Es × ai_V, d_X_enough_45 (d_X_enough_27 n) (k + 1) v (on t.1) t.2.1 (on a) (on (hm h)) V2 = _ ∧ _
      rw [d_X_enough_45, hF2.gi 3 0 rfl, K.2.1.1, if_pos (Int32.le_refl _), on_s]
      refine ⟨(t, V2), rfl, ?_, ht0, ?_, hr2, hF2⟩
      · show t = _
        rw [eO_s, ← hs]; exact ht
      · show t.1 ≤ _
        omega
  · rintro n s V1 ⟨hs, hs0, hs6, hr, hF⟩
    show ∃ c : Int32 × ai_V, d_X_enough_27 (n + 1) v (on s.1) s.2.1 (on (hm h)) V1 = _ ∧ _
    obtain ⟨V2, e2, c2, -⟩ := row_add hr (by cases s.2.2 <;> simp [eR]) s.2.1.toInt64
    rw [d_X_enough_27, hF.gi 3 0 rfl, K.2.1.1, if_pos (Int32.le_refl _), e2, bd_some, ← hs]
    exact ⟨_, rfl, rfl, c2⟩
theorem M_enough {V : ai_V} {h : Hs} {f : Rf} {z : Ss} {v : Int32} (K : KM V h f) (hz : mS z V 90 0) (hv : 0 ≤ v ∧ v ≤ 198) :
    ∃ V', d_M_enough v V = some (on (eO h f z v (hm h)).1, V') ∧ mRow V' (eR (eO h f z v (hm h)).2.2 ++ [(eO h f z v (hm h)).2.1.toInt64]) := by
  have h6 := K.1.1
  rw [d_M_enough, in_eq, bd_some, if_pos (by rw [tf_pos hv]; decide)]
  have := loop_n (fun n (s : Es) x V => d_M_enough_31 n v (on s.1) (ob (-1) (s.2.2.map Prod.fst)) (ob (-1) (s.2.2.map Prod.snd)) s.2.1 x V) (fun c : Int32 × ai_V => some c)
    (fun a s V' => s = eO h f z v a ∧ (s.1 = 0 ↔ s.2.2 = none) ∧ s.1 ≤ 6 * a ∧ Fr wM V V')
    (fun c => c.1 = on (eO h f z v (hm h)).1 ∧ mRow c.2 (eR (eO h f z v (hm h)).2.2 ++ [(eO h f z v (hm h)).2.1.toInt64])) (hm h) ?_ ?_ (hm h) 0 ai_N (0, -1, none) (si V 89 14 0) (by omega) (N_gt (by omega)) ⟨rfl, by simp, by simp, Fr.si Fr.rf rfl⟩
  · obtain ⟨⟨c1, c2⟩, e, q1, q2⟩ := this
    simp only at q1 q2
    subst q1
    exact ⟨c2, e, q2⟩
  · rintro n s a V1 ha ⟨hs, hs0, hs6, hF⟩
    show ∃ (s' : Es) (V' : ai_V), d_M_enough_31 (n + 1) v (on s.1) (ob (-1) (s.2.2.map Prod.fst)) (ob (-1) (s.2.2.map Prod.snd)) s.2.1 (on a) V1 = _ ∧ _
    rw [d_M_enough_31, hF.gi 89 1 rfl, K.2.1.1, if_neg (by rw [on_le (by omega) (by omega)]; omega), on_s]
    have inner := loop_n (fun k (t : Es) x V => d_M_enough_46 (d_M_enough_31 n) k v (on t.1) (ob (-1) (t.2.2.map Prod.fst)) (ob (-1) (t.2.2.map Prod.snd)) t.2.1 (on a) x V) (fun c : Es × ai_V => d_M_enough_31 n v (on c.1.1) (ob (-1) (c.1.2.2.map Prod.fst)) (ob (-1) (c.1.2.2.map Prod.snd)) c.1.2.1 (on (a + 1)) c.2)
      (fun b t V' => a + 1 ≤ b ∧ t = eI h f z v a (b - (a + 1)) s ∧ (t.1 = 0 ↔ t.2.2 = none) ∧ t.1 ≤ s.1 + (b - (a + 1)) ∧ Fr wM V V')
      (fun c => c.1 = eO h f z v (a + 1) ∧ (c.1.1 = 0 ↔ c.1.2.2 = none) ∧ c.1.1 ≤ 6 * (a + 1) ∧ Fr wM V c.2) (hm h) ?_ ?_ (hm h - (a + 1)) (a + 1) ai_N s V1 (by omega) (N_gt (by omega)) ⟨Nat.le_refl _, by rw [Nat.sub_self]; rfl, hs0, by omega, hF⟩
    · obtain ⟨c, e, q⟩ := inner
      exact ⟨c.1, c.2, e, q⟩
    · rintro k t b V2 hb ⟨hb1, ht, ht0, ht6, hF2⟩
      have K2 := K.fr hF2 rfl
      have z2 := hz.fr hF2 rfl
      obtain ⟨V3, e3, F3⟩ := mn_eq K2 z2 (or_lt _ (pw_lt a (by omega)) b (by omega))
      have F3' : Fr wM V V3 := Fr.tr hF2 F3 rfl
      show ∃ (t' : Es) (V' : ai_V), d_M_enough_46 (d_M_enough_31 n) (k + 1) v (on t.1) (ob (-1) (t.2.2.map Prod.fst)) (ob (-1) (t.2.2.map Prod.snd)) t.2.1 (on a) (on b) V2 = _ ∧ _
      rw [d_M_enough_46, K2.2.1.1, if_neg (by rw [on_le (by omega) (by omega)]; omega), or_pw a (by omega) b (by omega), e3, bd_some]
      have hes : eI h f z v a (b + 1 - (a + 1)) s = eS h f z v a b t := by
        rw [show b + 1 - (a + 1) = (b - (a + 1)) + 1 by omega, eI_s, show a + 1 + (b - (a + 1)) = b by omega, ← ht]
      have hok := eS_ok (h := h) (f := f) (z := z) (v := v) (a := a) (b := b) ht0
      have fin : ∃ (t' : Es) (V' : ai_V), d_M_enough_46 (d_M_enough_31 n) k v (on (eS h f z v a b t).1) (ob (-1) ((eS h f z v a b t).2.2.map Prod.fst)) (ob (-1) ((eS h f z v a b t).2.2.map Prod.snd)) (eS h f z v a b t).2.1 (on a) (on (b + 1)) V3 = d_M_enough_46 (d_M_enough_31 n) k v (on t'.1) (ob (-1) (t'.2.2.map Prod.fst)) (ob (-1) (t'.2.2.map Prod.snd)) t'.2.1 (on a) (on (b + 1)) V' ∧ a + 1 ≤ b + 1 ∧ t' = eI h f z v a (b + 1 - (a + 1)) s ∧ (t'.1 = 0 ↔ t'.2.2 = none) ∧ t'.1 ≤ s.1 + (b + 1 - (a + 1)) ∧ Fr wM V V' :=
        ⟨eS h f z v a b t, V3, rfl, by omega, hes.symm, hok.1, by have := hok.2; omega, F3'⟩
      by_cases e4 : L2 h f z a b < v
      · have e5 : eS h f z v a b t = (t.1, ai_max t.2.1 (L2 h f z a b), t.2.2) := by unfold eS; simp only [if_pos e4]
        rw [if_neg (nle.mpr e4), d_M_enough_102, on_s]
        rw [e5] at fin; exact fin
      · rw [if_pos (nlt.mp e4)]
        by_cases e6 : t.1 = 0
        · have e5 : eS h f z v a b t = (t.1 + 1, ai_max t.2.1 (L2 h f z a b), some (a, b)) := by unfold eS; simp only [if_neg e4, if_pos e6]
          rw [if_neg (by rw [e6]; exact fun hn => hn rfl), d_M_enough_99, d_M_enough_102, on_s, on_s]
          rw [e5] at fin; exact fin
        · have e5 : eS h f z v a b t = (t.1 + 1, ai_max t.2.1 (L2 h f z a b), t.2.2) := by unfold eS; simp only [if_neg e4, if_neg e6]
          rw [if_pos (by rw [on_z (by omega)]; exact e6), d_M_enough_99, d_M_enough_102, on_s, on_s]
          rw [e5] at fin; exact fin
    · rintro k t V2 ⟨hb1, ht, ht0, ht6, hF2⟩
      show ∃ c : Es × ai_V, d_M_enough_46 (d_M_enough_31 n) (k + 1) v (on t.1) (ob (-1) (t.2.2.map Prod.fst)) (ob (-1) (t.2.2.map Prod.snd)) t.2.1 (on a) (on (hm h)) V2 = _ ∧ _
      rw [d_M_enough_46, hF2.gi 89 1 rfl, K.2.1.1, if_pos (Int32.le_refl _), on_s]
      refine ⟨(t, V2), rfl, ?_, ht0, ?_, hF2⟩
      · show t = _
        rw [eO_s, ← hs]; exact ht
      · show t.1 ≤ _
        omega
  · rintro n s V1 ⟨hs, hs0, hs6, hF⟩
    show ∃ c : Int32 × ai_V, d_M_enough_31 (n + 1) v (on s.1) (ob (-1) (s.2.2.map Prod.fst)) (ob (-1) (s.2.2.map Prod.snd)) s.2.1 (on (hm h)) V1 = _ ∧ _
    rw [d_M_enough_31, hF.gi 89 1 rfl, K.2.1.1, if_pos (Int32.le_refl _), ← hs]
    cases e : s.2.2 with
    | none =>
      have e0 := hs0.mpr e
      obtain ⟨V2, e2, c2, -⟩ := m_tell (m_row0 V1) (by simp) s.2.1.toInt64
      rw [if_pos (by rw [e0]; decide), d_M_enough_136, e2, bd_some]
      exact ⟨_, rfl, rfl, c2⟩
    | some p =>
      have e0 : s.1 ≠ 0 := fun hz => by rw [hs0.mp hz] at e; cases e
      obtain ⟨V2, e2, c2, -⟩ := m_tell (m_row0 V1) (by simp) (on p.1).toInt64
      obtain ⟨V3, e3, c3, -⟩ := m_tell c2 (by simp) (on p.2).toInt64
      obtain ⟨V4, e4, c4, -⟩ := m_tell c3 (by simp) s.2.1.toInt64
      rw [if_neg (by rw [zero_on, on_le (by omega) (by omega)]; omega)]
      show ∃ c : Int32 × ai_V, ((d_M_tell (on p.1).toInt64 (si V1 89 13 0)).bind _) = _ ∧ _
      rw [e2, bd_some]
      show ∃ c : Int32 × ai_V, ((d_M_tell (on p.2).toInt64 V2).bind _) = _ ∧ _
      rw [e3, bd_some, d_M_enough_136, e4, bd_some]
      exact ⟨_, rfl, rfl, c4⟩
theorem st_enough {N : Nat} {V : ai_V} (hI : Inv N V) (hN : N < 512) (v : Int32) : Step N V (d_X_enough v) (d_M_enough v) := by
  obtain ⟨h, f, z, rm, nw, kc, km, hS, hn, hb⟩ := hI.k
  by_cases hv : 0 ≤ v ∧ v ≤ 198
  · obtain ⟨V1, e1, c1⟩ := X_enough kc hS.2.1 hv
    have F1 : Fr w_X_enough V V1 := fr_X_enough _ _ _ e1
    obtain ⟨V2, e2, c2⟩ := M_enough (km.fr F1 rfl) (hS.2.2.1.fr F1 rfl) hv
    have F2 : Fr w_M_enough V1 V2 := fr_M_enough _ _ _ e2
    exact ⟨_, V1, V2, e1, e2, hI.qq F1 F2 rfl rfl rfl rfl (o := some _) (fun r hr => by obtain rfl := Option.some.inj hr; cases (eO h f z v (hm h)).2.2 <;> simp [eR]) c1 c2 (hI.x.fr2 F1 F2 rfl rfl)⟩
  · refine ⟨-1, V, si V 89 14 0, ?_, ?_, hI.no 0⟩
    · rw [d_X_enough]
      by_cases e : v < 0
      · rw [if_pos e]
      · rw [if_neg e, if_neg (fun e2 => hv ⟨nlt.mp e, e2⟩)]
    · rw [d_M_enough, in_eq, bd_some, if_neg (fun hn => hn (tf_neg hv))]
