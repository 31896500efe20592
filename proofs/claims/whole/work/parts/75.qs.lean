/-! ===== bath, even ===== -/
theorem one_on : (1 : Int32) = on 1 := rfl
theorem zero_on : (0 : Int32) = on 0 := rfl
theorem hasX {h : Hs} (hO : HO h) (x : Int32) : (∃ i, i < hm h ∧ x = on i) ∨ ¬ (0 ≤ x ∧ x < on (hm h)) := by
  by_cases e : 0 ≤ x ∧ x < on (hm h)
  · exact Or.inl (has_on hO e)
  · exact Or.inr e
theorem KM.s14 {V : ai_V} {h : Hs} {f : Rf} (k : KM V h f) (x : Int32) : KM (si V 89 14 x) h f := k.fr (w := ([(89, 14)], [])) (Fr.si Fr.rf rfl) rfl
theorem isMore_eq (x : Int32) (V : ai_V) : d_M_isMore x V = some (tf (1 ≤ x ∧ x ≤ 60)) := by
  rw [d_M_isMore, in_eq, bd_some, if_pos tf_01]
theorem rng (x : Int32) (a b : Nat) (ha : a < 2147483648) (hb : b < 2147483648) (h : on a ≤ x ∧ x ≤ on b) : ∃ n, x = on n ∧ a ≤ n ∧ n ≤ b := by
  have h0 : 0 ≤ x := by
    have := h.1
    rw [ti_le, on_ti ha] at this
    rw [ti_le]; show (0 : Int) ≤ _; omega
  refine ⟨x.toNatClampNeg, (on_of h0).symm, ?_, ?_⟩
  · have h1 := h.1
    rw [← on_of h0, on_le ha x.toNatClampNeg_lt] at h1
    exact h1
  · have h1 := h.2
    rw [← on_of h0, on_le x.toNatClampNeg_lt hb] at h1
    exact h1
def bathP (h : Hs) (f : Rf) (rm : Int32) (i : Nat) (v : Int32) (z : Ss) : (Ss × Int32) ⊕ (Nat × Int32) := foe (fun _ a => (qz h f (lo h) rm (2 ^ i) a.1, a.2 + on (popc (qT h f (lo h) rm (2 ^ i) a.1).2))) (fun k a => if (qz h f (lo h) rm (2 ^ i) a.1).2.1 < v then none else some (k, a.2 + on (popc (qT h f (lo h) rm (2 ^ i) a.1).2))) 60 1 (z, 0)
def bathV : (Ss × Int32) ⊕ (Nat × Int32) → Int32
  | .inl _ => -2
  | .inr r => on r.1
def bathR : (Ss × Int32) ⊕ (Nat × Int32) → Option (List Int64)
  | .inl _ => none
  | .inr r => some [r.2.toInt64]
theorem X_bath {N : Nat} {V : ai_V} {h : Hs} {f : Rf} {z : Ss} {rm : Int32} {nw i : Nat} (K : KC V h f) (hS : IS N V h z rm) (hn : z.1 = on nw) (hb : nw < 2000000) (hi : i < hm h) {v : Int32} (hv : 1 ≤ v ∧ v ≤ 999) :
    ∃ b : Int32 × ai_V, d_X_bath (on i) v V = some b ∧ b.1 = bathV (bathP h f rm i v z) ∧ cRo V b.2 (bathR (bathP h f rm i v z)) := by
  obtain ⟨V1, e1, t1⟩ := start_C hS hn
  rw [d_X_bath, has_eq K.2.1, bd_some, if_neg (by rw [tf_pos (on_has K.1 hi)]; decide), if_neg (nlt.mpr hv.1), if_pos hv.2, e1, bd_some]
  refine loop_g (fun n (a : Ss × Int32) x V => d_X_bath_36 n (on i) v a.2 x V) _ _ (fun k a V' => tC V V' a.1 rm (nw + k - 1) ∧ 1 ≤ k) (fun r b => b.1 = bathV r ∧ cRo V b.2 (bathR r)) 61 ?_ ?_ 60 1 ai_N (z, 0) V1 (by omega) (N_gt (by omega)) ⟨t1, by omega⟩
  · rintro n ⟨a, d⟩ k V2 hk ⟨hP, hk1⟩
    obtain ⟨V3, e3, t3, -, -, -, b5⟩ := tC_step K hP (by omega) (pr_one hi)
    rw [show nw + k - 1 + 1 = nw + (k + 1) - 1 by omega] at t3
    have h60 : ¬ (60 : Int32) < on k := by rw [show (60 : Int32) = on 60 from rfl, on_lt (by omega) (by omega)]; omega
    have hl : gi V3 19 1 = (qz h f (lo h) rm (2 ^ i) a).2.1 := t3.1.2.1
    by_cases hz : (qz h f (lo h) rm (2 ^ i) a).2.1 < v
    · refine ⟨fun _ => ?_, fun r hc => ?_⟩
      · show ∃ V', d_X_bath_36 (n + 1) (on i) v d (on k) V2 = _ ∧ _
        rw [d_X_bath_36, if_neg h60, e3, bd_some, hl, if_pos hz, b5, on_s]
        exact ⟨V3, rfl, t3, by omega⟩
      · dsimp only at hc
        rw [if_pos hz] at hc; cases hc
    · refine ⟨fun hc => ?_, fun r hc => ?_⟩
      · dsimp only at hc
        rw [if_neg hz] at hc; cases hc
      · dsimp only at hc
        rw [if_neg hz] at hc
        obtain rfl := Option.some.inj hc
        obtain ⟨V4, e4, c4, F4⟩ := tell1 ((d + on (popc (qT h f (lo h) rm (2 ^ i) a).2)).toInt64) V3
        show ∃ b, d_X_bath_36 (n + 1) (on i) v d (on k) V2 = _ ∧ _
        rw [d_X_bath_36, if_neg h60, e3, bd_some, hl, if_neg hz, b5, e4, bd_some]
        exact ⟨_, rfl, rfl, c4⟩
  · rintro n ⟨a, d⟩ V2 ⟨hP, -⟩
    show ∃ b, d_X_bath_36 (n + 1) (on i) v d (on 61) V2 = _ ∧ _
    rw [d_X_bath_36, if_pos (by decide)]
    exact ⟨_, rfl, rfl, cRo.no hP.2.2.2 rfl⟩
theorem M_bath {N : Nat} {V V1 : ai_V} {h : Hs} {f : Rf} {z : Ss} {rm : Int32} {nw i : Nat} {w : Fw} (K : KM V1 h f) (hS : IS N V h z rm) (hn : z.1 = on nw) (hb : nw < 2000000) (F : Fr w V V1) (hd : fw_a 90 w.2 = false) (h8 : gi V1 89 8 = rm) (hi : i < hm h) {v : Int32} (hv : 1 ≤ v ∧ v ≤ 999) :
    ∃ b : Int32 × ai_V, d_M_bath (on i) v V1 = some b ∧ b.1 = bathV (bathP h f rm i v z) ∧ mRo V1 b.2 (bathR (bathP h f rm i v z)) := by
  have h6 := K.1.1
  obtain ⟨V2, e1, t1⟩ := start_M hS hn F hd 0
  rw [d_M_bath, isOne_eq K.1 (K.s14 0).2.1, bd_some, if_neg (by rw [tf_pos (on_has K.1 hi)]; decide), in_eq, bd_some, if_pos (by rw [tf_pos hv]; decide), e1, bd_some]
  refine loop_g (fun n (a : Ss × Int32) x V => d_M_bath_43 n (on i) v a.2 x V) _ _ (fun k a V' => tM V1 V' a.1 (nw + k - 1) ∧ 1 ≤ k) (fun r b => b.1 = bathV r ∧ mRo V1 b.2 (bathR r)) 61 ?_ ?_ 60 1 ai_N (z, 0) V2 (by omega) (N_gt (by omega)) ⟨t1, by omega⟩
  · rintro n ⟨a, d⟩ k V2 hk ⟨hP, hk1⟩
    obtain ⟨V3, e3, t3, -, -, b5⟩ := tM_step K hP (by omega) (pw_lt2 hi) rm
    rw [show nw + k - 1 + 1 = nw + (k + 1) - 1 by omega] at t3
    have h60 : ¬ (60 : Int32) < on k := by rw [show (60 : Int32) = on 60 from rfl, on_lt (by omega) (by omega)]; omega
    have hl : ga V3 103 12 = (qz h f (lo h) rm (2 ^ i) a).2.1 := t3.1.2.1
    by_cases hz : (qz h f (lo h) rm (2 ^ i) a).2.1 < v
    · refine ⟨fun _ => ?_, fun r hc => ?_⟩
      · show ∃ V', d_M_bath_43 (n + 1) (on i) v d (on k) V2 = _ ∧ _
        rw [d_M_bath_43, if_neg h60, sh_on (by omega), hP.2.2.gi 89 8 rfl, h8, e3, bd_some, b5, bitCount_on _ (qT_lt K.1 f (hst h) rm _ a), bd_some, show ((12 : Int32)).toNatClampNeg = 12 from rfl, hl, if_neg (nle.mpr hz), on_s]
        exact ⟨V3, rfl, t3, by omega⟩
      · dsimp only at hc
        rw [if_pos hz] at hc; cases hc
    · refine ⟨fun hc => ?_, fun r hc => ?_⟩
      · dsimp only at hc
        rw [if_neg hz] at hc; cases hc
      · dsimp only at hc
        rw [if_neg hz] at hc
        obtain rfl := Option.some.inj hc
        obtain ⟨V4, e4, c4, F4⟩ := m_tell (m_row0 V3) (by simp) ((d + on (popc (qT h f (lo h) rm (2 ^ i) a).2)).toInt64)
        show ∃ b, d_M_bath_43 (n + 1) (on i) v d (on k) V2 = _ ∧ _
        rw [d_M_bath_43, if_neg h60, sh_on (by omega), hP.2.2.gi 89 8 rfl, h8, e3, bd_some, b5, bitCount_on _ (qT_lt K.1 f (hst h) rm _ a), bd_some, show ((12 : Int32)).toNatClampNeg = 12 from rfl, hl, if_pos (nlt.mp hz), e4, bd_some]
        exact ⟨_, rfl, rfl, c4⟩
  · rintro n ⟨a, d⟩ V2 ⟨hP, -⟩
    show ∃ b, d_M_bath_43 (n + 1) (on i) v d (on 61) V2 = _ ∧ _
    rw [d_M_bath_43, if_pos (by decide)]
    exact ⟨_, rfl, rfl, mRo.no hP.2.2 rfl⟩
theorem st_bath {N : Nat} {V : ai_V} (hI : Inv N V) (hN : N < 512) (x v : Int32) : Step N V (d_X_bath x v) (d_M_bath x v) := by
  obtain ⟨h, f, z, rm, nw, kc, km, hS, hn, hb⟩ := hI.k
  rcases hasX kc.1 x with ⟨i, hi, rfl⟩ | hx
  · by_cases hv : 1 ≤ v ∧ v ≤ 999
    · obtain ⟨⟨v1, V1⟩, e1, hv1, c1⟩ := X_bath kc hS hn (by omega) hi hv
      have F1 : Fr w_X_bath V V1 := fr_X_bath _ _ _ _ e1
      obtain ⟨⟨v2, V2⟩, e2, hv2, c2⟩ := M_bath (km.fr F1 rfl) hS hn (by omega) F1 rfl (by rw [F1.gi 89 8 rfl]; exact hS.2.2.2.2.1) hi hv
      have F2 : Fr w_M_bath V1 V2 := fr_M_bath _ _ _ _ e2
      simp only at hv1 hv2
      subst hv1 hv2
      refine ⟨_, V1, V2, e1, e2, hI.qq F1 F2 rfl rfl rfl rfl (fun r hr => ?_) c1 c2 (hI.x.fr2 F1 F2 rfl rfl)⟩
      cases e : bathP h f rm i v z with
      | inl a => rw [e] at hr; cases hr
      | inr a => rw [e] at hr; obtain rfl := Option.some.inj hr; simp
    · refine ⟨-1, V, si V 89 14 0, ?_, ?_, hI.no 0⟩
      · rw [d_X_bath, has_eq kc.2.1, bd_some, if_neg (by rw [tf_pos (on_has kc.1 hi)]; decide)]
        by_cases e : v < 1
        · rw [if_pos e]
        · rw [if_neg e, if_neg (fun e2 => hv ⟨nlt.mp e, e2⟩)]
      · rw [d_M_bath, isOne_eq km.1 (km.s14 0).2.1, bd_some, if_neg (by rw [tf_pos (on_has km.1 hi)]; decide), in_eq, bd_some, if_neg (fun hn => hn (tf_neg hv))]
  · refine ⟨-1, V, si V 89 14 0, ?_, ?_, hI.no 0⟩
    · rw [d_X_bath, has_eq kc.2.1, bd_some, if_pos (tf_neg hx)]
    · rw [d_M_bath, isOne_eq km.1 (km.s14 0).2.1, bd_some, if_pos (tf_neg hx)]
/-! even -/
def evB (h : Hs) (z : Ss) : Nat := if 0 < z.2.2.1 (dp (hm h) z.2.2.1) then 2 ^ dp (hm h) z.2.2.1 else 0
def evG (h : Hs) (f : Rf) (rm : Int32) (a : Ss × Int32 × Int32) : Ss × Int32 × Int32 := (qz h f (lo h) rm (evB h a.1) a.1, a.2.1 + on (popc (qT h f (lo h) rm (evB h a.1) a.1).2), a.2.2 + (if 0 < a.1.2.2.1 (dp (hm h) a.1.2.2.1) then 0 else 1))
def evP (h : Hs) (f : Rf) (rm : Int32) (n : Nat) (z : Ss) : Ss × Int32 × Int32 := fo (fun _ a => evG h f rm a) n 0 (z, 0, 0)
def evR (h : Hs) (a : Ss × Int32 × Int32) : List Int64 := [a.1.2.1.toInt64, (a.1.2.2.1 (dp (hm h) a.1.2.2.1)).toInt64, a.2.2.toInt64]
theorem evB_lt {h : Hs} (h0 : 0 < hm h) (z : Ss) : evB h z < 2 ^ hm h := by
  unfold evB
  by_cases e : 0 < z.2.2.1 (dp (hm h) z.2.2.1)
  · rw [if_pos e]; exact pw_lt2 (dp_lt h0 _)
  · rw [if_neg e]; exact pw_pos _
theorem X_even {N : Nat} {V : ai_V} {h : Hs} {f : Rf} {z : Ss} {rm : Int32} {nw k : Nat} (K : KC V h f) (hS : IS N V h z rm) (hn : z.1 = on nw) (hb : nw < 2000000) (h0 : 0 < hm h) (hk : 1 ≤ k) (hk' : k ≤ 60) :
    ∃ b : Int32 × ai_V, d_X_even (on k) V = some b ∧ b.1 = (evP h f rm k z).2.1 ∧ cRow b.2 (evR h (evP h f rm k z)) := by
  have h6 := K.1.1
  obtain ⟨V1, e1, t1⟩ := start_C hS hn
  rw [d_X_even, one_on, if_neg (by rw [on_lt (by omega) (by omega)]; omega), show (60 : Int32) = on 60 from rfl, if_pos (by rw [on_le (by omega) (by omega)]; omega), K.2.1.1, if_pos (by rw [on_z (by omega)]; omega), e1, bd_some]
  refine loop_n (fun n (a : Ss × Int32 × Int32) x V => d_X_even_39 n (on k) a.2.1 a.2.2 x V) (fun c => some c) (fun i a V' => tC V V' a.1 rm (nw + i) ∧ a = evP h f rm i z) (fun b => b.1 = (evP h f rm k z).2.1 ∧ cRow b.2 (evR h (evP h f rm k z))) k ?_ ?_ k 0 ai_N (z, 0, 0) V1 (by omega) (N_gt (by omega)) ⟨t1, rfl⟩
  · rintro n ⟨a, d, m⟩ i V2 hi ⟨hP, ha⟩
    have K2 := K.fr hP.2.2.2 rfl
    have hd : ∀ k, k < 6 → ga V2 20 k = a.2.2.1 k := fun k hk => (hP.1.2.2 k hk).1
    have hdl := dp_lt h0 a.2.2.1
    show ∃ a' V', d_X_even_39 (n + 1) (on k) d m (on i) V2 = _ ∧ _
    rw [d_X_even_39, if_neg (by rw [on_le (by omega) (by omega)]; omega), fg_20 K2.1 K2.2.1 h0, bd_some, dp_congr h6 hd, if_pos (by rw [on_in (by omega)]; omega), on_nn (by omega), hd _ (by omega)]
    have hev : evP h f rm (i + 1) z = evG h f rm (a, d, m) := by rw [ha]; exact fo_s _ _ _ _
    by_cases e : 0 < a.2.2.1 (dp (hm h) a.2.2.1)
    · have hB : evB h a = 2 ^ dp (hm h) a.2.2.1 := by rw [evB, if_pos e]
      obtain ⟨V3, e3, t3, -, -, -, b5⟩ := tC_step K hP (by omega) (pr_one hdl)
      rw [if_pos e, d_X_even_74, e3, bd_some, b5, on_s]
      refine ⟨evG h f rm (a, d, m), V3, ?_, ?_, hev.symm⟩
      · unfold evG; simp only [hB, if_pos e]; simp
      · unfold evG; simp only [hB]; exact t3
    · have hB : evB h a = 0 := by rw [evB, if_neg e]
      obtain ⟨V3, e3, t3, -, -, -, b5⟩ := tC_step K hP (by omega) (pr_no h)
      rw [if_neg e, d_X_even_74, e3, bd_some, b5, on_s]
      refine ⟨evG h f rm (a, d, m), V3, ?_, ?_, hev.symm⟩
      · unfold evG; simp only [hB, if_neg e]
      · unfold evG; simp only [hB]; exact t3
  · rintro n ⟨a, d, m⟩ V2 ⟨hP, ha⟩
    have K2 := K.fr hP.2.2.2 rfl
    have hd : ∀ k, k < 6 → ga V2 20 k = a.2.2.1 k := fun k hk => (hP.1.2.2 k hk).1
    have hdl := dp_lt h0 a.2.2.1
    show ∃ c, d_X_even_39 (n + 1) (on k) d m (on k) V2 = _ ∧ _
    rw [d_X_even_39, if_pos (Int32.le_refl _), fg_20 K2.1 K2.2.1 h0, bd_some, dp_congr h6 hd, if_pos (by rw [on_in (by omega)]; omega), on_nn (by omega), hd _ (by omega), hP.1.2.1]
    obtain ⟨V4, e4, c4, -⟩ := tell3 a.2.1.toInt64 (a.2.2.1 (dp (hm h) a.2.2.1)).toInt64 m.toInt64 V2
    rw [e4, bd_some, ← ha]
    exact ⟨_, rfl, rfl, c4⟩
theorem M_even {N : Nat} {V V1 : ai_V} {h : Hs} {f : Rf} {z : Ss} {rm : Int32} {nw k : Nat} {w : Fw} (K : KM V1 h f) (hS : IS N V h z rm) (hn : z.1 = on nw) (hb : nw < 2000000) (F : Fr w V V1) (hd : fw_a 90 w.2 = false) (h8 : gi V1 89 8 = rm) (h0 : 0 < hm h) (hk : 1 ≤ k) (hk' : k ≤ 60) :
    ∃ b : Int32 × ai_V, d_M_even (on k) V1 = some b ∧ b.1 = (evP h f rm k z).2.1 ∧ mRow b.2 (evR h (evP h f rm k z)) := by
  have h6 := K.1.1
  obtain ⟨V2, e1, t1⟩ := start_M hS hn F hd 0
  rw [d_M_even, isMore_eq, bd_some, if_pos (by rw [tf_pos]; · decide
                                               · rw [one_on, show (60 : Int32) = on 60 from rfl, on_le (by omega) (by omega), on_le (by omega) (by omega)]; omega), (K.s14 0).2.1.1, if_pos (by rw [on_z (by omega)]; omega), e1, bd_some]
  refine loop_n (fun n (a : Ss × Int32 × Int32) x V => d_M_even_43 n (on k) a.2.1 a.2.2 x V) (fun c => some c) (fun i a V' => tM V1 V' a.1 (nw + i) ∧ a = evP h f rm i z) (fun b => b.1 = (evP h f rm k z).2.1 ∧ mRow b.2 (evR h (evP h f rm k z))) k ?_ ?_ k 0 ai_N (z, 0, 0) V2 (by omega) (N_gt (by omega)) ⟨t1, rfl⟩
  · rintro n ⟨a, d, m⟩ i V2 hi ⟨hP, ha⟩
    have K2 := K.fr hP.2.2 rfl
    have hd : ∀ k, k < 6 → ga V2 103 k = a.2.2.1 k := fun k hk => by have := (hP.1.2.2 k hk).1; rwa [Nat.zero_add] at this
    have hdl := dp_lt h0 a.2.2.1
    show ∃ a' V', d_M_even_43 (n + 1) (on k) d m (on i) V2 = _ ∧ _
    rw [d_M_even_43, if_neg (by rw [on_le (by omega) (by omega)]; omega), deepM_eq K2.1 K2.2.1 h0, bd_some, dp_congr h6 hd, if_pos (by rw [on_in (by omega)]; omega), on_nn (by omega), hd _ (by omega)]
    have hev : evP h f rm (i + 1) z = evG h f rm (a, d, m) := by rw [ha]; exact fo_s _ _ _ _
    obtain ⟨V3, e3, t3, -, -, b5⟩ := tM_step K hP (by omega) (evB_lt h0 a) rm
    have hq := qT_lt K.1 f (hst h) rm (evB h a) a
    by_cases e : 0 < a.2.2.1 (dp (hm h) a.2.2.1)
    · have hB : evB h a = 2 ^ dp (hm h) a.2.2.1 := by rw [evB, if_pos e]
      rw [if_neg (nle.mpr e), d_M_even_74, if_neg (by decide), sh_on (by omega), d_M_even_94, hP.2.2.gi 89 8 rfl, h8, ← hB, e3, bd_some, b5, bitCount_on _ hq, bd_some, if_neg (by decide), d_M_even_122, on_s]
      refine ⟨evG h f rm (a, d, m), V3, ?_, ?_, hev.symm⟩
      · unfold evG; simp only [if_pos e]
      · unfold evG; exact t3
    · have hB : evB h a = 0 := by rw [evB, if_neg e]
      have e3' : d_M_goQuarter_89_103 0 rm V2 = some V3 := by rw [← e3, hB]; rfl
      rw [if_pos (nlt.mp e), d_M_even_74, if_pos rfl, d_M_even_94, hP.2.2.gi 89 8 rfl, h8, e3', bd_some, b5, bitCount_on _ hq, bd_some, if_pos rfl, d_M_even_122, on_s]
      refine ⟨evG h f rm (a, d, m), V3, ?_, ?_, hev.symm⟩
      · unfold evG; simp only [if_neg e]
      · unfold evG; exact t3
  · rintro n ⟨a, d, m⟩ V2 ⟨hP, ha⟩
    have hd : ∀ k, k < 6 → ga V2 103 k = a.2.2.1 k := fun k hk => by have := (hP.1.2.2 k hk).1; rwa [Nat.zero_add] at this
    have hdl := dp_lt h0 a.2.2.1
    show ∃ c, d_M_even_43 (n + 1) (on k) d m (on k) V2 = _ ∧ _
    have hl : ga V2 103 12 = a.2.1 := hP.1.2.1
    obtain ⟨V3, e3, c3, F3⟩ := m_tell (m_row0 V2) (by simp) a.2.1.toInt64
    have F3' : Fr ([(89, 13)], [97]) V2 V3 := Fr.tr (Fr.si Fr.rf rfl) F3 rfl
    have K3 := (K.fr hP.2.2 rfl).fr F3' rfl
    have hd3 : ∀ k, k < 6 → ga V3 103 k = a.2.2.1 k := fun k hk => by rw [F3'.ga 103 rfl]; exact hd k hk
    rw [d_M_even_43, if_pos (Int32.le_refl _), ga_si, show ((12 : Int32)).toNatClampNeg = 12 from rfl, hl, e3, bd_some, deepM_eq K3.1 K3.2.1 h0, bd_some, dp_congr h6 hd3, if_pos (by rw [on_in (by omega)]; omega), on_nn (by omega), hd3 _ (by omega)]
    obtain ⟨V4, e4, c4, -⟩ := m_tell c3 (by simp) (a.2.2.1 (dp (hm h) a.2.2.1)).toInt64
    obtain ⟨V5, e5, c5, -⟩ := m_tell c4 (by simp) m.toInt64
    rw [e4, bd_some, e5, bd_some, ← ha]
    exact ⟨_, rfl, rfl, c5⟩
theorem st_even {N : Nat} {V : ai_V} (hI : Inv N V) (hN : N < 512) (x : Int32) : Step N V (d_X_even x) (d_M_even x) := by
  obtain ⟨h, f, z, rm, nw, kc, km, hS, hn, hb⟩ := hI.k
  have h6 := kc.1.1
  by_cases hx : 1 ≤ x ∧ x ≤ 60
  · obtain ⟨k, rfl, k1, k2⟩ := rng x 1 60 (by omega) (by omega) hx
    by_cases h0 : 0 < hm h
    · obtain ⟨⟨v1, V1⟩, e1, hv1, c1⟩ := X_even kc hS hn (by omega) h0 k1 k2
      have F1 : Fr w_X_even V V1 := fr_X_even _ _ _ e1
      obtain ⟨⟨v2, V2⟩, e2, hv2, c2⟩ := M_even (km.fr F1 rfl) hS hn (by omega) F1 rfl (by rw [F1.gi 89 8 rfl]; exact hS.2.2.2.2.1) h0 k1 k2
      have F2 : Fr w_M_even V1 V2 := fr_M_even _ _ _ e2
      simp only at hv1 hv2
      subst hv1 hv2
      exact ⟨_, V1, V2, e1, e2, hI.qq F1 F2 rfl rfl rfl rfl (o := some (evR h (evP h f rm k z))) (fun r hr => by obtain rfl := Option.some.inj hr; simp [evR]) c1 c2 (hI.x.fr2 F1 F2 rfl rfl)⟩
    · have h00 : hm h = 0 := by omega
      refine ⟨-2, V, si V 89 14 0, ?_, ?_, hI.no 0⟩
      · rw [d_X_even, if_neg (nlt.mpr hx.1), if_pos hx.2, kc.2.1.1, h00, if_neg (fun hn => hn rfl)]
      · rw [d_M_even, isMore_eq, bd_some, if_pos (by rw [tf_pos hx]; decide), (km.s14 0).2.1.1, h00, if_neg (fun hn => hn rfl)]
  · refine ⟨-1, V, si V 89 14 0, ?_, ?_, hI.no 0⟩
    · rw [d_X_even]
      by_cases e : x < 1
      · rw [if_pos e]
      · rw [if_neg e, if_neg (fun e2 => hx ⟨nlt.mp e, e2⟩)]
    · rw [d_M_even, isMore_eq, bd_some, if_neg (fun hn => hn (tf_neg hx))]
