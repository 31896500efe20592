/-! ===== the best rows: the class's table ===== -/
theorem C_lf {P : PL} {n : Nat} (hP : PO P) (hn : n ≤ 12) : ∀ (k i L fu : Nat) (V : ai_V), i + k = n → k < fu → L ≤ plR P → KP V P n → TB V P n →
    ∃ V', d_Plan_leastFrom_R fu (on i) (on L) V = some (on (gA P (bst P k i L)), V') ∧ TB V' P n ∧ Fr wPl V V' := by
  have h6 := hP.1.1
  have hR := hP.2.2.2.1
  intro k
  induction k with
  | zero =>
    intro i L fu V hi hfu hL K hB
    obtain ⟨fu, rfl⟩ : ∃ n', fu = n' + 1 := ⟨fu - 1, by omega⟩
    rw [d_Plan_leastFrom_R, d_Plan_leastFrom_B, K.2.2.2.2.1, if_neg (by rw [on_lt (by omega) (by omega)]; omega)]
    by_cases e : plF P = true
    · rw [if_neg (fun h => (K.rd.mp h) e), bst, if_pos e, gA, if_neg (by omega), if_pos e, show (999 : Int32) = on 999 from rfl, on_sub (by omega), show 1000 * ((999 - L) / 10000) + (999 - L) % 10000 = 999 - L by omega]
      exact ⟨V, rfl, hB, Fr.rf⟩
    · rw [if_pos (K.rd.mpr e), bst, if_neg e, gA, if_neg (by omega), if_neg e]
      exact ⟨V, rfl, hB, Fr.rf⟩
  | succ k ih =>
    intro i L fu V hi hfu hL K hB
    obtain ⟨fu, rfl⟩ : ∃ n', fu = n' + 1 := ⟨fu - 1, by omega⟩
    have hpl := pl_in hP hn (show i < n by omega) hL
    have hin : ai_in (on (i * (plR P + 1) + L)) 12000 := by rw [on_in (by omega)]; exact hpl
    have hnn : (on (i * (plR P + 1) + L)).toNatClampNeg = i * (plR P + 1) + L := on_nn (by omega)
    have e120 : ∀ (T : Int32 → Int32 → ai_V → Option (Int32 × ai_V)) (V' : ai_V), KP V' P n → d_Plan_leastFrom_136 T (on (i * (plR P + 1) + L)) V' = some (ga V' 119 (i * (plR P + 1) + L), V') := by
      intro T V' K'
      rw [d_Plan_leastFrom_136, if_pos K'.2.1, if_pos hin, hnn]
    rw [d_Plan_leastFrom_R, d_Plan_leastFrom_B, K.2.2.2.2.1, if_pos (by rw [on_lt (by omega) (by omega)]; omega), K.2.2.2.2.2.2, on_s, on_mul, on_add, if_neg (nlt.mpr (on_ge0 (by omega))), if_pos K.2.1, show Int32.ofNat 12000 = on 12000 from rfl, if_pos (by rw [on_lt (by omega) (by omega)]; exact hpl), if_pos K.2.1, if_pos hin, hnn]
    rcases hB i L (by omega) hL with hu | hu
    · rw [if_neg (fun hc => hc hu)]
      have hT : ∀ L V, L ≤ plR P → KP V P n → TB V P n → ∃ V', d_Plan_leastFrom_R fu (on (i + 1)) (on L) V = some (on (gA P (bst P k (i + 1) L)), V') ∧ TB V' P n ∧ Fr wPl V V' := fun L V hL K hB => ih (i + 1) L fu V (by omega) (by omega) hL K hB
      obtain ⟨V1, e1, B1, F1⟩ := C_co hP hn (by omega) hT (Or.inl rfl) hL K hB
      have K1 := K.fr F1 rfl rfl
      have e1' : d_Plan_costOf_B (d_Plan_leastFrom_R fu) (on i) (on L) (-1) V = some (on (pY P k i L 0), V1) := e1
      have etr : (if gi V1 64 6 = 0 then d_Plan_leastFrom_88 (d_Plan_leastFrom_R fu) (on i) (on L) (on (i * (plR P + 1) + L)) (on (pY P k i L 0)) (1 : Int32) V1 else d_Plan_leastFrom_88 (d_Plan_leastFrom_R fu) (on i) (on L) (on (i * (plR P + 1) + L)) (on (pY P k i L 0)) (1000 : Int32) V1) = d_Plan_leastFrom_88 (d_Plan_leastFrom_R fu) (on i) (on L) (on (i * (plR P + 1) + L)) (on (pY P k i L 0)) (on (if plF P = true then 1000 else 1)) V1 := by
        by_cases e : plF P = true
        · rw [if_neg (fun h => (K1.rd.mp h) e), if_pos e]; rfl
        · rw [if_pos (K1.rd.mpr e), if_neg e]; rfl
      rw [e1', bd_some, etr, d_Plan_leastFrom_88]
      have hle : ∀ j, pY P k i L j ≤ 1000000 := by
        intro j
        induction j with
        | zero =>
          have := cst_vld hP (k := k) (by omega) (fun L hL => bst_vld hP k (i + 1) L (by omega) hL) (w := 0) (Or.inl rfl) (i := i) (by omega) hL
          exact (gA_le (show k + 1 ≤ 12 by omega) this.1 this.1).2.1
        | succ j ihj =>
          rw [pY_s, gY]
          by_cases e : (plW P).testBit j = true
          · rw [if_pos e]; omega
          · rw [if_neg e]; exact ihj
      have := loop_e (fun q (a : Int32) x V => d_Plan_leastFrom_93 (d_Plan_leastFrom_R fu) q (on i) (on L) (on (i * (plR P + 1) + L)) a (on (if plF P = true then 1000 else 1)) x V)
        (fun W : ai_V => d_Plan_leastFrom_128 (d_Plan_leastFrom_R fu) (on (i * (plR P + 1) + L)) (on (gA P (bst P (k + 1) i L))) W)
        (fun j a W => a = on (pY P k i L j) ∧ TB W P n ∧ Fr wPl V W) (fun W => TB W P n ∧ Fr wPl V W) 6 ?_ ?_ 6 0 ai_N (on (pY P k i L 0)) V1 (by omega) (N_gt (by omega)) ⟨rfl, B1, F1⟩
      · obtain ⟨V2, e2, B2, F2⟩ := this
        have e2' : d_Plan_leastFrom_93 (d_Plan_leastFrom_R fu) ai_N (on i) (on L) (on (i * (plR P + 1) + L)) (on (pY P k i L 0)) (on (if plF P = true then 1000 else 1)) 0 V1 = _ := e2
        have K2 := K.fr F2 rfl rfl
        rw [e2', d_Plan_leastFrom_128, if_pos K2.2.1, if_pos hin, hnn]
        have F3 : Fr wPl V (sa V2 119 (i * (plR P + 1) + L) (on (gA P (bst P (k + 1) i L)))) := Fr.sa F2 rfl
        rw [e120 _ _ (K.fr F3 rfl rfl)]
        refine ⟨_, by rw [ga_sa, if_pos ⟨rfl, rfl⟩], fun i' L' hi' hL' => ?_, F3⟩
        rw [ga_sa]
        by_cases ep : i' * (plR P + 1) + L' = i * (plR P + 1) + L
        · obtain ⟨rfl, rfl⟩ := pl_inj hL' hL ep
          rw [if_pos ⟨rfl, rfl⟩, show n - i' = k + 1 by omega]
          exact Or.inr rfl
        · rw [if_neg (fun hc => ep hc.2)]
          exact B2 i' L' hi' hL'
      · rintro q _ j V2 hj ⟨rfl, B2, F2⟩
        have K2 := K.fr F2 rfl rfl
        have ly := hle j
        show (∃ a' V', d_Plan_leastFrom_93 (d_Plan_leastFrom_R fu) (q + 1) (on i) (on L) (on (i * (plR P + 1) + L)) (on (pY P k i L j)) (on (if plF P = true then 1000 else 1)) (on j) V2 = _ ∧ _) ∨ _
        have htr : (if plF P = true then 1000 else 1) < 2147483648 := by
          by_cases e : plF P = true
          · rw [if_pos e]; omega
          · rw [if_neg e]; omega
        rw [d_Plan_leastFrom_93, show (6 : Int32) = on 6 from rfl, if_neg (by rw [on_le (by omega) (by omega)]; omega)]
        by_cases es : pY P k i L j ≤ (if plF P = true then 1000 else 1)
        · refine Or.inr ⟨V2, ?_, B2, F2⟩
          rw [if_pos (by rw [on_le (by omega) htr]; exact es), ← pY_fin hP (by omega) hL, ← pY_stop hP (by omega) hL es (6 - j), show j + (6 - j) = 6 by omega]
        · refine Or.inl ?_
          rw [if_neg (by rw [on_le (by omega) htr]; exact es)]
          have ej : wi (j + 1) = on j := rfl
          by_cases eb : (plW P).testBit j = true
          · have hlt := bit_lt hP.2.2.2.2 eb
            have hgw : gw P (j + 1) := Or.inr ⟨by omega, by rw [Nat.add_sub_cancel]; exact eb⟩
            obtain ⟨V3, e3, B3, F3⟩ := C_co hP hn (by omega) hT hgw hL K2 B2
            rw [ej] at e3
            have hc := cst_vld hP (k := k) (by omega) (fun L hL => bst_vld hP k (i + 1) L (by omega) hL) hgw (i := i) (by omega) hL
            have hc2 : gA P (cst P (bst P k (i + 1)) i L (j + 1)) ≤ 1000000 := (gA_le (show k + 1 ≤ 12 by omega) hc.1 hc.1).2.1
            rw [e3, bd_some, on_s]
            simp only []
            rw [min_on (by omega) (by omega)]
            exact ⟨_, V3, rfl, by rw [pY_s, gY, if_pos eb], B3, Fr.tr F2 F3 rfl⟩
          · have hgw : ¬ gw P (j + 1) := by
              rintro (h | ⟨-, h⟩)
              · omega
              · rw [Nat.add_sub_cancel] at h; exact eb h
            have e3 := C_no (T := d_Plan_leastFrom_R fu) hP hgw (by omega) K2 (on i) (on L)
            rw [ej] at e3
            rw [e3, bd_some, on_s]
            simp only []
            rw [min_on (by omega) (by omega)]
            exact ⟨_, V2, rfl, by rw [pY_s, gY, if_neg eb, Nat.min_eq_left ly], B2, F2⟩
      · rintro q _ V2 ⟨rfl, B2, F2⟩
        show ∃ c : ai_V, d_Plan_leastFrom_93 (d_Plan_leastFrom_R fu) (q + 1) (on i) (on L) (on (i * (plR P + 1) + L)) (on (pY P k i L 6)) (on (if plF P = true then 1000 else 1)) (on 6) V2 = _ ∧ _
        rw [d_Plan_leastFrom_93, show (6 : Int32) = on 6 from rfl, if_pos (Int32.le_refl _), pY_fin hP (by omega) hL]
        exact ⟨V2, rfl, B2, F2⟩
    · have hv := bst_vld hP (k + 1) i L (by omega) hL
      have := (gA_le (show k + 1 ≤ 12 by omega) hv hv).2.1
      rw [show n - i = k + 1 by omega] at hu
      rw [if_pos (by rw [hu]; exact on_ne_m1 (by omega)), e120 _ _ K, hu]
      exact ⟨V, rfl, hB, Fr.rf⟩
/-! the row -/
def wTl : Fw := ([(15, 2), (15, 3), (15, 4), (15, 5), (65, 0), (65, 1), (22, 1)], [12, 13, 66, 67, 119, 23])
theorem wi_s (w : Nat) : wi w + 1 = wi (w + 1) := by
  by_cases e : w = 0
  · subst e; rfl
  · rw [wi, wi, if_neg e, if_neg (by omega), on_s]; congr 1; omega
theorem C_t25 {P : PL} {n i k L : Nat} (hP : PO P) (hn : n ≤ 12) (hik : i + (k + 1) = n) (hL : L ≤ plR P) (hf : bst P (k + 1) i L ≠ 1000000000) {F6 : Int32 → Int32 → ai_V → Option ai_V} : ∀ (g w q : Nat) (V : ai_V), w + g = 6 → g < q → w ≤ fsw P k i L → KP V P n → TB V P n →
    ∃ V', d_Plan_tellInto_25 F6 q (on L) (on i) (on (gA P (bst P (k + 1) i L))) (wi w) V = d_Plan_tellInto_50 F6 (on L) (on i) (wi (fsw P k i L)) V' ∧ TB V' P n ∧ Fr wPl V V' := by
  obtain ⟨f1, f2, f3, f4⟩ := fsw_ok hP k i L
  have h6 := hP.1.1
  have hT : ∀ L V, L ≤ plR P → KP V P n → TB V P n → ∃ V', d_Plan_leastFrom_R 80 (on (i + 1)) (on L) V = some (on (gA P (bst P k (i + 1) L)), V') ∧ TB V' P n ∧ Fr wPl V V' := fun L V hL K hB => C_lf hP hn k (i + 1) L 80 V (by omega) (by omega) hL K hB
  have hv := bst_vld hP (k + 1) i L (by omega) hL
  have hvb := (gA_le (show k + 1 ≤ 12 by omega) hv hv).2
  intro g
  induction g with
  | zero =>
    intro w q V hw hq hle K hB
    obtain ⟨q, rfl⟩ : ∃ n', q = n' + 1 := ⟨q - 1, by omega⟩
    have ew : fsw P k i L = 6 := by omega
    have ew2 : w = 6 := by omega
    subst ew2
    rw [d_Plan_tellInto_25, ew, if_pos (by decide)]
    exact ⟨V, rfl, hB, Fr.rf⟩
  | succ g ih =>
    intro w q V hw hq hle K hB
    obtain ⟨q, rfl⟩ : ∃ n', q = n' + 1 := ⟨q - 1, by omega⟩
    have h5 : ¬ (5 : Int32) ≤ wi w := by
      rcases (show w = 0 ∨ w = 1 ∨ w = 2 ∨ w = 3 ∨ w = 4 ∨ w = 5 by omega) with rfl | rfl | rfl | rfl | rfl | rfl <;> decide
    rw [d_Plan_tellInto_25, if_neg h5]
    by_cases hg : gw P w
    · obtain ⟨V3, e3, B3, F3⟩ := C_co hP hn hik hT hg hL K hB
      have e3' : d_Plan_costOf (on i) (on L) (wi w) V = some (on (gA P (cst P (bst P k (i + 1)) i L w)), V3) := e3
      have hc := (cst_vld hP (k := k) (by omega) (fun L hL => bst_vld hP k (i + 1) L (by omega) hL) hg (i := i) (by omega) hL).1
      have hcb : gA P (cst P (bst P k (i + 1)) i L w) ≤ 1000000 := (gA_le (show k + 1 ≤ 12 by omega) hc hc).2.1
      have hgeq : gA P (cst P (bst P k (i + 1)) i L w) = gA P (bst P (k + 1) i L) ↔ cst P (bst P k (i + 1)) i L w = bst P (k + 1) i L := gA_eq (show k + 1 ≤ 12 by omega) hc hv
      rw [e3', bd_some]
      by_cases ec : cst P (bst P k (i + 1)) i L w = bst P (k + 1) i L
      · have ew : fsw P k i L = w := by
          apply Classical.byContradiction
          intro hne
          exact f4 w (by omega) ⟨hg, ec⟩
        rw [if_pos (by rw [ec]), ew]
        exact ⟨V3, rfl, B3, F3⟩
      · have hlt : w < fsw P k i L := by
          apply Classical.byContradiction
          intro hne
          have : fsw P k i L = w := by omega
          rw [this] at f3
          exact ec f3
        obtain ⟨V4, e4, B4, F4⟩ := ih (w + 1) q V3 (by omega) (by omega) (by omega) (K.fr F3 rfl rfl) B3
        rw [if_neg (by
          show ¬ on _ = on _
          rw [on_inj (by omega) (by omega), hgeq]; exact ec), wi_s]
        exact ⟨V4, e4, B4, Fr.tr F3 F4 rfl⟩
    · have e3 := C_no (T := d_Plan_leastFrom_R 80) hP hg (by omega) K (on i) (on L)
      have e3' : d_Plan_costOf (on i) (on L) (wi w) V = some (on 1000000, V) := e3
      have hlt : w < fsw P k i L := by
        apply Classical.byContradiction
        intro hne
        have : fsw P k i L = w := by omega
        rw [this] at f2
        exact hg f2
      obtain ⟨V4, e4, B4, F4⟩ := ih (w + 1) q V (by omega) (by omega) (by omega) K hB
      have hneq : ¬ gA P (bst P (k + 1) i L) = 1000000 := fun h => hf (hvb.2.mp h)
      rw [e3', bd_some, if_neg (by
        show ¬ on _ = on _
        rw [on_inj (by omega) (by omega)]; exact fun h => hneq h.symm), wi_s]
      exact ⟨V4, e4, B4, F4⟩
theorem C_tell {P : PL} {n : Nat} (hP : PO P) (hn : n ≤ 12) : ∀ (k i L q : Nat) (row : List Int64) (V : ai_V), i + k = n → k < q → L ≤ plR P → bst P k i L ≠ 1000000000 → row.length + k ≤ 12 → cRow V row → KP V P n → TB V P n →
    ∃ V', d_Plan_tellInto_6 q (on L) (on i) V = some V' ∧ cRow V' (row ++ pth P k i L) ∧ Fr wTl V V' := by
  intro k
  induction k with
  | zero =>
    intro i L q row V hi hq hL hf hr hc K hB
    obtain ⟨q, rfl⟩ : ∃ n', q = n' + 1 := ⟨q - 1, by omega⟩
    rw [d_Plan_tellInto_6, K.2.2.2.2.1, if_pos (by rw [on_le (by omega) (by omega)]; omega)]
    exact ⟨V, rfl, by rw [pth, List.append_nil]; exact hc, Fr.rf⟩
  | succ k ih =>
    intro i L q row V hi hq hL hf hr hc K hB
    obtain ⟨q, rfl⟩ : ∃ n', q = n' + 1 := ⟨q - 1, by omega⟩
    obtain ⟨V1, e1, B1, F1⟩ := C_lf hP hn (k + 1) i L 80 V (by omega) (by omega) hL K hB
    have e1' : d_Plan_leastFrom (on i) (on L) V = some (on (gA P (bst P (k + 1) i L)), V1) := e1
    have K1 := K.fr F1 rfl rfl
    obtain ⟨V2, e2, B2, F2⟩ := C_t25 hP hn (show i + (k + 1) = n by omega) hL hf (F6 := d_Plan_tellInto_6 q) 6 0 ai_N V1 (by omega) (N_gt (by omega)) (by omega) K1 B1
    have e2' : d_Plan_tellInto_25 (d_Plan_tellInto_6 q) ai_N (on L) (on i) (on (gA P (bst P (k + 1) i L))) (-1) V1 = _ := e2
    obtain ⟨f1, f2, f3, f4⟩ := fsw_ok hP k i L
    obtain ⟨V3, e3, c3, F3⟩ := row_add (V := V2) ((hc.fr F1 rfl).fr F2 rfl) (by omega) (wi (fsw P k i L)).toInt64
    have K3 := (K1.fr F2 rfl rfl).fr F3 rfl rfl
    obtain ⟨V4, e4, a4, -, F4⟩ := C_ps hP K3 (i := i) (by omega) hL f2
    have nl := (nx_ok hP f2 (i := i) (by omega) hL).2.1
    obtain ⟨V5, e5, c5, F5⟩ := ih (i + 1) (nxl P (wb (fsw P k i L)) i L) q (row ++ [(wi (fsw P k i L)).toInt64]) V4 (by omega) (by omega) nl (bst_fin hP hf) (by rw [List.length_append, List.length_singleton]; omega) (c3.fr F4 rfl) (K3.fr F4 rfl rfl) ((B2.fr F3 rfl).fr F4 rfl)
    rw [d_Plan_tellInto_6, K.2.2.2.2.1, if_neg (by rw [on_le (by omega) (by omega)]; omega), e1', bd_some, e2', d_Plan_tellInto_50, e3, bd_some, d_Plan_levelBehind, e4, bd_some, bd_some, a4, on_s, e5]
    refine ⟨V5, rfl, ?_, Fr.tr (Fr.tr (Fr.tr (Fr.tr (Fr.tr Fr.rf F1 rfl) F2 rfl) F3 rfl) F4 rfl) F5 rfl⟩
    rw [pth, show row ++ (wi (fsw P k i L)).toInt64 :: pth P k (i + 1) (nxl P (wb (fsw P k i L)) i L) = row ++ [(wi (fsw P k i L)).toInt64] ++ pth P k (i + 1) (nxl P (wb (fsw P k i L)) i L) by simp]
    exact c5
/-! the question -/
def wLc : Fw := ([(15, 2), (15, 3), (15, 4), (15, 5), (65, 0), (65, 1), (64, 3), (64, 4), (64, 5), (64, 6), (65, 2)], [12, 13, 66, 67, 119])
theorem C_lc {P : PL} {n l : Nat} {V : ai_V} (hP : PO P) (hn : n ≤ 12) (hl : l ≤ plR P) (K : KC V P.1 P.2.1) (hg : gr V 64 2 = some 119) (h0 : gi V 16 0 = on P.2.2.1) (h1 : gi V 16 1 = on l) (h2 : gi V 16 2 = on (plR P)) :
    ∃ V', d_Plan_leastCost_17 (on (plW P)) (on n) (tf (plF P = true)) V = some (on (gA P (bst P n 0 l)), V') ∧ KP V' P n ∧ TB V' P n ∧ Fr wLc V V' := by
  have hR := hP.2.2.2.1
  have hmul : n * (plR P + 1) ≤ 12000 := by
    have : n * (plR P + 1) ≤ 12 * (plR P + 1) := Nat.mul_le_mul_right _ hn
    omega
  have F0 : Fr wLc V (si (si (si (si (si V 64 3 (gi V 16 0)) 64 4 (on (plW P))) 64 5 (on n)) 64 6 (tf (plF P = true))) 65 2 (gi (si (si (si (si V 64 3 (gi V 16 0)) 64 4 (on (plW P))) 64 5 (on n)) 64 6 (tf (plF P = true))) 16 2)) := Fr.si (Fr.si (Fr.si (Fr.si (Fr.si Fr.rf rfl) rfl) rfl) rfl) rfl
  have K0 : KP (si (si (si (si (si V 64 3 (gi V 16 0)) 64 4 (on (plW P))) 64 5 (on n)) 64 6 (tf (plF P = true))) 65 2 (gi (si (si (si (si V 64 3 (gi V 16 0)) 64 4 (on (plW P))) 64 5 (on n)) 64 6 (tf (plF P = true))) 16 2)) P n := by
    refine ⟨K.fr F0 rfl, ?_, ?_, ?_, ?_, ?_, ?_⟩
    · simp only [gr_si]; exact hg
    · simp only [gi_si]; simp; exact h0
    · simp only [gi_si]; simp
    · simp only [gi_si]; simp
    · simp only [gi_si]; simp
    · simp only [gi_si]; simp; exact h2
  rw [d_Plan_leastCost_17, if_pos tf_01]
  generalize si (si (si (si (si V 64 3 (gi V 16 0)) 64 4 (on (plW P))) 64 5 (on n)) 64 6 (tf (plF P = true))) 65 2 (gi (si (si (si (si V 64 3 (gi V 16 0)) 64 4 (on (plW P))) 64 5 (on n)) 64 6 (tf (plF P = true))) 16 2) = W at *
  have := loop_n (fun q (_ : Unit) x V => d_Plan_leastCost_55 q x V) (fun c : ai_V => d_Plan_leastCost_95 c)
    (fun j _ V' => (∀ q, q < j → ga V' 119 q = -1) ∧ Fr ([], [119]) W V') (fun V' => (∀ q, q < n * (plR P + 1) → ga V' 119 q = -1) ∧ Fr ([], [119]) W V') (n * (plR P + 1)) ?_ ?_ (n * (plR P + 1)) 0 ai_N () W (by omega) (N_gt (by omega)) ⟨fun q hq => absurd hq (by omega), Fr.rf⟩
  · obtain ⟨V1, e1, a1, F1⟩ := this
    have e1' : d_Plan_leastCost_55 ai_N 0 W = d_Plan_leastCost_95 V1 := e1
    have K1 := K0.fr F1 rfl rfl
    have B1 : TB V1 P n := by
      intro i L hi hL
      refine Or.inl (a1 _ ?_)
      have : (i + 1) * (plR P + 1) ≤ n * (plR P + 1) := Nat.mul_le_mul_right _ (by omega)
      rw [Nat.add_mul, Nat.one_mul] at this
      omega
    have F01 : Fr wLc V V1 := Fr.tr F0 F1 rfl
    obtain ⟨V2, e2, B2, F2⟩ := C_lf hP hn n 0 l 80 V1 (by omega) (by omega) hl K1 B1
    have e2' : d_Plan_leastFrom 0 (on l) V1 = _ := e2
    rw [e1', d_Plan_leastCost_95, F01.gi 16 1 rfl, h1, e2', bd_some]
    exact ⟨V2, rfl, K1.fr F2 rfl rfl, B2, Fr.tr F01 F2 rfl⟩
  · rintro q _ j V1 hj ⟨a1, F1⟩
    have K1 := K0.fr F1 rfl rfl
    have F01 : Fr wLc V V1 := Fr.tr F0 F1 rfl
    show ∃ (a' : Unit) (V' : ai_V), d_Plan_leastCost_55 (q + 1) (on j) V1 = _ ∧ _
    rw [d_Plan_leastCost_55, K1.2.2.2.2.1, F01.gi 16 2 rfl, h2, on_s, on_mul, if_neg (by rw [on_le (by omega) (by omega)]; omega), if_pos K1.2.1, show Int32.ofNat 12000 = on 12000 from rfl, if_neg (by rw [on_le (by omega) (by omega)]; omega), if_pos K1.2.1, if_pos (by rw [on_in (by omega)]; omega), on_s, on_nn (by omega)]
    refine ⟨(), _, rfl, fun q hq => ?_, Fr.sa F1 rfl⟩
    rw [ga_sa]
    by_cases e : q = j
    · rw [if_pos ⟨rfl, e⟩]
    · rw [if_neg (fun hc => e hc.2)]; exact a1 q (by omega)
  · rintro q _ V1 ⟨a1, F1⟩
    have K1 := K0.fr F1 rfl rfl
    have F01 : Fr wLc V V1 := Fr.tr F0 F1 rfl
    show ∃ c : ai_V, d_Plan_leastCost_55 (q + 1) (on (n * (plR P + 1))) V1 = _ ∧ _
    rw [d_Plan_leastCost_55, K1.2.2.2.2.1, F01.gi 16 2 rfl, h2, on_s, on_mul, if_pos (Int32.le_refl _)]
    exact ⟨V1, rfl, a1, F1⟩
