/-! ===== the best rows: the class ===== -/
def wPl : Fw := ([(15, 2), (15, 3), (15, 4), (15, 5), (65, 0), (65, 1)], [12, 13, 66, 67, 119])
def KP (V : ai_V) (P : PL) (n : Nat) : Prop := KC V P.1 P.2.1 ∧ gr V 64 2 = some 119 ∧ gi V 64 3 = on P.2.2.1 ∧ gi V 64 4 = on (plW P) ∧ gi V 64 5 = on n ∧ gi V 64 6 = tf (plF P = true) ∧ gi V 65 2 = on (plR P)
def TB (V : ai_V) (P : PL) (n : Nat) : Prop := ∀ i L, i < n → L ≤ plR P → ga V 119 (i * (plR P + 1) + L) = -1 ∨ ga V 119 (i * (plR P + 1) + L) = on (gA P (bst P (n - i) i L))
theorem KP.fr {V V' : ai_V} {P : PL} {n : Nat} {w : Fw} (h : KP V P n) (F : Fr w V V') (hd : fw_dis ([(3, 0), (3, 1), (3, 2), (10, 1)], [4, 5, 6, 7, 8, 9, 11]) w = true) (hd2 : fw_dis ([(64, 2), (64, 3), (64, 4), (64, 5), (64, 6), (65, 2)], []) w = true) : KP V' P n := by
  have t := Sm.of F hd2
  refine ⟨h.1.fr F hd, ?_⟩
  rw [t.r 64 2 rfl, t.i 64 3 rfl, t.i 64 4 rfl, t.i 64 5 rfl, t.i 64 6 rfl, t.i 65 2 rfl]; exact h.2
theorem TB.fr {V V' : ai_V} {P : PL} {n : Nat} {w : Fw} (h : TB V P n) (F : Fr w V V') (hd : fw_a 119 w.2 = false) : TB V' P n := by
  unfold TB at *
  rw [(F.2.1 119 hd).1]; exact h
theorem pl_in {P : PL} (hP : PO P) {n i L : Nat} (hn : n ≤ 12) (hi : i < n) (hL : L ≤ plR P) : i * (plR P + 1) + L < 12000 := by
  have h1 := hP.2.2.2.1
  have : i * (plR P + 1) ≤ 11 * (plR P + 1) := Nat.mul_le_mul_right _ (by omega)
  omega
theorem pl_inj {R i i' L L' : Nat} (hL : L ≤ R) (hL' : L' ≤ R) (h : i * (R + 1) + L = i' * (R + 1) + L') : i = i' ∧ L = L' := by
  have e1 : (i * (R + 1) + L) / (R + 1) = i := by
    rw [Nat.mul_comm, Nat.mul_add_div (by omega), Nat.div_eq_of_lt (by omega)]; omega
  have e2 : (i' * (R + 1) + L') / (R + 1) = i' := by
    rw [Nat.mul_comm, Nat.mul_add_div (by omega), Nat.div_eq_of_lt (by omega)]; omega
  have : i = i' := by rw [← e1, ← e2, h]
  subst this
  exact ⟨rfl, by omega⟩
theorem KP.rd {V : ai_V} {P : PL} {n : Nat} (h : KP V P n) : (gi V 64 6 = 0 ↔ ¬ plF P = true) := by
  rw [h.2.2.2.2.2.1]
  by_cases e : plF P = true
  · rw [tf_pos e]; exact ⟨fun h => absurd h (by decide), fun h => absurd e h⟩
  · rw [tf_neg e]; exact ⟨fun _ => e, fun _ => rfl⟩
/-- one quarter of the trial -/
theorem C_ps {V : ai_V} {P : PL} {n i L w : Nat} (hP : PO P) (K : KP V P n) (hi : i ≤ 12) (hL : L ≤ plR P) (hw : gw P w) : ∃ V', d_Wheel_pass_15_65 (wi w) (-1) (si (si V 65 0 (gi V 64 3 + on i)) 65 1 (on L)) = some V' ∧ gi V' 65 1 = on (nxl P (wb w) i L) ∧ gi V' 15 5 = on (nxd P (wb w) i L) ∧ Fr ([(15, 2), (15, 3), (15, 4), (15, 5), (65, 0), (65, 1)], [12, 13, 66, 67]) V V' := by
  have F1 : Fr ([(15, 2), (15, 3), (15, 4), (15, 5), (65, 0), (65, 1)], [12, 13, 66, 67]) V (si (si V 65 0 (gi V 64 3 + on i)) 65 1 (on L)) := Fr.si (Fr.si Fr.rf rfl) rfl
  have K1 := K.fr F1 rfl rfl
  have hz : cS (on (P.2.2.1 + i), on L, ga V 66, ga V 67) (si (si V 65 0 (gi V 64 3 + on i)) 65 1 (on L)) 65 := by
    refine ⟨?_, ?_, fun k _ => ⟨?_, ?_⟩⟩
    · rw [gi_si, if_neg (by decide), gi_si, if_pos ⟨rfl, rfl⟩, K.2.2.1, on_add]
    · rw [gi_si, if_pos ⟨rfl, rfl⟩]
    · rw [ga_si, ga_si]
    · rw [ga_si, ga_si]
  have h2 := hP.2.1
  obtain ⟨V', e, c, -, -, -, c5⟩ := pass_65 (rm := on (plR P)) (nw := P.2.2.1 + i) K1.1.1 K1.1.2.1 K1.1.2.2.1 K1.1.2.2.2 (gw_pr hP hw).1 hz K1.2.2.2.2.2.2 rfl (by omega)
  have eq := (qT_eq (h := P.1) (f := P.2.1) (l := ordL (hst P.1) (hm P.1)) (rm := on (plR P)) (b := wb w) (z := (on (P.2.2.1 + i), on L, ga V 66, ga V 67)) (y := (on (P.2.2.1 + i), on L, fun _ => 0, fun _ => 0)) rfl rfl).1
  have F2 : Fr w_Wheel_pass_15_65 _ V' := fr_Wheel_pass_15_65 _ _ _ _ e
  refine ⟨V', e, ?_, ?_, Fr.tr F1 F2 rfl⟩
  · have := c.2.1
    rw [← (nx_ok hP hw hi hL).1]
    rw [this]
    show (qT _ _ _ _ _ _).1 = _
    rw [eq]; rfl
  · rw [c5, eq]; rfl
theorem wi_ne {w : Nat} (h : w ≠ 0) (h6 : w ≤ 6) : ¬ wi w = -1 := by rw [wi, if_neg h]; exact on_ne_m1 (by omega)
theorem C_co {P : PL} {T : Int32 → Int32 → ai_V → Option (Int32 × ai_V)} {n i k : Nat} (hP : PO P) (hn : n ≤ 12) (hik : i + (k + 1) = n) (hT : ∀ L V, L ≤ plR P → KP V P n → TB V P n → ∃ V', T (on (i + 1)) (on L) V = some (on (gA P (bst P k (i + 1) L)), V') ∧ TB V' P n ∧ Fr wPl V V')
    {w L : Nat} {V : ai_V} (hw : gw P w) (hL : L ≤ plR P) (K : KP V P n) (hB : TB V P n) : ∃ V', d_Plan_costOf_B T (on i) (on L) (wi w) V = some (on (gA P (cst P (bst P k (i + 1)) i L w)), V') ∧ TB V' P n ∧ Fr wPl V V' := by
  have h6 := hP.1.1
  have h64 := Nat.lt_of_lt_of_le hP.2.2.2.2 (two_le h6)
  have hw6 : w ≤ 6 := by
    rcases hw with rfl | h
    · omega
    · omega
  obtain ⟨n1, n2, n3, n4⟩ := nx_ok hP hw (i := i) (by omega) hL
  have hg := (cst_vld hP (k := k) (by omega) (fun L hL => bst_vld hP k (i + 1) L (by omega) hL) hw (i := i) (by omega) hL).2
  obtain ⟨V1, e1, a1, a5, F1⟩ := C_ps hP K (i := i) (by omega) hL hw
  have F1' : Fr wPl V V1 := Fr.tr Fr.rf F1 rfl
  have K1 := K.fr F1 rfl rfl
  have B1 := hB.fr F1 rfl
  obtain ⟨V2, e2, B2, F2⟩ := hT (nxl P (wb w) i L) V1 n2 K1 B1
  have e19 : d_Plan_costOf_B T (on i) (on L) (wi w) V = d_Plan_costOf_19 T (on i) (on L) (wi w) V := by
    rw [d_Plan_costOf_B]
    by_cases e : w = 0
    · subst e; rw [if_pos (show wi 0 = -1 from rfl)]
    · rw [if_neg (wi_ne e hw6), K.2.2.2.1, wi, if_neg e]
      have hb : (plW P).testBit (w - 1) = true := by
        rcases hw with h | h
        · exact absurd h e
        · exact h.2
      have := (bt_on (plW P) h64 (w - 1) (by omega)).mpr hb
      rw [if_pos (by rw [this]; decide)]
  have e73 : d_Plan_costOf_73 T (on i) (wi w) V1 = d_Plan_costOf_83 T (on i) (on (w1 w)) V1 := by
    rw [d_Plan_costOf_73]
    by_cases e : w = 0
    · subst e; rw [if_neg (fun h => h rfl)]; rfl
    · rw [if_pos (wi_ne e hw6), w1, if_neg e]; rfl
  have hd0 : nxd P (wb w) i L = 0 ↔ (nxq P (wb w) i L).2 = 0 := by
    constructor
    · intro h
      apply Classical.byContradiction
      intro hne
      have := pop_pos _ n3 hne
      unfold nxd at h
      omega
    · intro h
      unfold nxd
      rw [h]; rfl
  have ht := w1_le w
  have hv := (gA_le (show 12 ≤ 12 by omega) (vld_mono (bst_vld hP k (i + 1) (nxl P (wb w) i L) (by omega) n2) (show k ≤ 12 by omega)) (vld_mono (bst_vld hP k (i + 1) (nxl P (wb w) i L) (by omega) n2) (show k ≤ 12 by omega))).2.1
  have e114 : ∀ s, s < 1000000 → d_Plan_costOf_114 T (on i) (on s) V1 = some (on (min 1000000 (s + gA P (bst P k (i + 1) (nxl P (wb w) i L)))), V2) := by
    intro s hs
    rw [d_Plan_costOf_114, on_s, a1, e2, bd_some]
    simp only [on_add]
    rw [show (1000000 : Int32) = on 1000000 from rfl, min_on (by omega) (by omega)]
  rw [e19, d_Plan_costOf_19, e1, bd_some, hg]
  by_cases eF : plF P = true
  · have k6 : ¬ gi V1 64 6 = 0 := fun h => (K1.rd.mp h) eF
    by_cases ed : (nxq P (wb w) i L).2 = 0
    · rw [if_neg k6, a5, if_pos (by rw [hd0.mpr ed]; decide), e73, d_Plan_costOf_83, if_neg k6, show (1000 : Int32) = on 1000 from rfl, on_mul, e114 _ (by omega), if_neg (fun h => h.2 ed), if_pos eF]
      exact ⟨V2, by rw [Nat.mul_comm], B2, Fr.tr F1' F2 rfl⟩
    · rw [if_neg k6, a5, if_neg (by rw [zero_on, on_le (by omega) (by omega)]; have := fun h => ed (hd0.mp h); omega), if_pos ⟨eF, ed⟩]
      exact ⟨V1, rfl, B1, F1'⟩
  · have k6 : gi V1 64 6 = 0 := K1.rd.mpr eF
    rw [if_pos k6, e73, d_Plan_costOf_83, if_pos k6, a5, show (13 : Int32) = on 13 from rfl, on_mul, on_add, e114 _ (by omega), if_neg (fun h => eF h.1), if_neg eF]
    exact ⟨V2, by rw [Nat.mul_comm 13], B2, Fr.tr F1' F2 rfl⟩
theorem C_no {P : PL} {T : Int32 → Int32 → ai_V → Option (Int32 × ai_V)} {n w : Nat} {V : ai_V} (hP : PO P) (hw : ¬ gw P w) (h6' : w ≤ 6) (K : KP V P n) (x y : Int32) : d_Plan_costOf_B T x y (wi w) V = some (on 1000000, V) := by
  have h6 := hP.1.1
  have h64 := Nat.lt_of_lt_of_le hP.2.2.2.2 (two_le h6)
  have e : w ≠ 0 := fun h => hw (Or.inl h)
  have hb : ¬ (plW P).testBit (w - 1) = true := by
    intro hb
    have := bit_lt hP.2.2.2.2 hb
    exact hw (Or.inr ⟨by omega, hb⟩)
  rw [d_Plan_costOf_B, if_neg (wi_ne e h6'), K.2.2.2.1, wi, if_neg e]
  have h01 : ∀ b, b < 64 → ∀ j, j < 6 → ((on b >>> (on j &&& 31)) &&& (1 : Int32) = 0 ∨ (on b >>> (on j &&& 31)) &&& (1 : Int32) = 1) := by decide +kernel
  rcases h01 (plW P) h64 (w - 1) (by omega) with h | h
  · rw [if_neg (fun hn => hn h)]; rfl
  · exact absurd ((bt_on (plW P) h64 (w - 1) (by omega)).mp h) hb
/-! the least, by those -/
def gY (P : PL) (k i L : Nat) (j y : Nat) : Nat := if (plW P).testBit j = true then min y (gA P (cst P (bst P k (i + 1)) i L (j + 1))) else y
def pY (P : PL) (k i L j : Nat) : Nat := fo (gY P k i L) j 0 (gA P (cst P (bst P k (i + 1)) i L 0))
theorem pY_s (P : PL) (k i L j : Nat) : pY P k i L (j + 1) = gY P k i L j (pY P k i L j) := by
  unfold pY; rw [fo_s, Nat.zero_add]
theorem pY_fin {P : PL} (hP : PO P) {k i L : Nat} (hik : i + (k + 1) ≤ 12) (hL : L ≤ plR P) : pY P k i L 6 = gA P (bst P (k + 1) i L) := by
  have h6 := hP.1.1
  have hr : ∀ L, L ≤ plR P → vld P k (bst P k (i + 1) L) := fun L hL => bst_vld hP k (i + 1) L (by omega) hL
  have hmm : pY P k i L (hm P.1) = gA P (bst P (k + 1) i L) := by
    have := fo_rel (g := gY P k i L) (g' := fun j a => if (plW P).testBit j = true then min a (cst P (bst P k (i + 1)) i L (j + 1)) else a) (fun y a => y = gA P a ∧ vld P (k + 1) a) (hm P.1) (fun j y a hj ha => by
      obtain ⟨rfl, hv⟩ := ha
      unfold gY
      by_cases e : (plW P).testBit j = true
      · rw [if_pos e, if_pos e]
        have hc := (cst_vld hP (by omega) hr (w := j + 1) (Or.inr ⟨by omega, by rw [Nat.add_sub_cancel]; exact e⟩) (i := i) (by omega) hL).1
        exact ⟨(gA_min (by omega) hv hc).symm, vld_min hv hc⟩
      · rw [if_neg e, if_neg e]; exact ⟨rfl, hv⟩) (hm P.1) 0 (gA P (cst P (bst P k (i + 1)) i L 0)) (cst P (bst P k (i + 1)) i L 0) (by omega) ⟨rfl, (cst_vld hP (by omega) hr (Or.inl rfl) (by omega) hL).1⟩
    unfold pY
    rw [this.1, bst]
  have : ∀ d, pY P k i L (hm P.1 + d) = pY P k i L (hm P.1) := by
    intro d
    induction d with
    | zero => rfl
    | succ d ih =>
      rw [← Nat.add_assoc, pY_s, ih, gY, if_neg (fun h => by have := bit_lt hP.2.2.2.2 h; omega)]
  have h := this (6 - hm P.1)
  rw [show hm P.1 + (6 - hm P.1) = 6 by omega] at h
  rw [h]; exact hmm
theorem pY_stop {P : PL} (hP : PO P) {k i L : Nat} (hik : i + (k + 1) ≤ 12) (hL : L ≤ plR P) {j : Nat} (hj : pY P k i L j ≤ (if plF P = true then 1000 else 1)) : ∀ d, pY P k i L (j + d) = pY P k i L j := by
  intro d
  induction d with
  | zero => rfl
  | succ d ih =>
    rw [← Nat.add_assoc, pY_s, ih, gY]
    by_cases e : (plW P).testBit (j + d) = true
    · rw [if_pos e]
      have hlt := bit_lt hP.2.2.2.2 e
      have hc := (cst_vld hP (k := k) (by omega) (fun L hL => bst_vld hP k (i + 1) L (by omega) hL) (w := j + d + 1) (Or.inr ⟨by omega, by rw [Nat.add_sub_cancel]; exact e⟩) (i := i) (by omega) hL).2
      have hw : w1 (j + d + 1) = 1 := rfl
      rw [hc, hw]
      by_cases eF : plF P = true
      · rw [if_pos eF] at hj
        rw [if_pos eF]
        by_cases e2 : plF P = true ∧ (nxq P (wb (j + d + 1)) i L).2 ≠ 0
        · rw [if_pos e2]; omega
        · rw [if_neg e2]; omega
      · rw [if_neg eF] at hj
        rw [if_neg eF, if_neg (fun h => eF h.1)]; omega
    · rw [if_neg e]
