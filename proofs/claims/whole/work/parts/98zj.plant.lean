/-! ===== the best rows: the model tells ===== -/
def wTm : Fw := ([(89, 13), (89, 15), (89, 16), (89, 17), (89, 18), (89, 19), (89, 23), (89, 24), (89, 25), (89, 26), (89, 27), (89, 28), (89, 29)], [97])
theorem M_t26 {P : PL} {n i k L : Nat} (hP : PO P) (hn : n ≤ 12) (hik : i + (k + 1) = n) (hL : L ≤ plR P) {F17 : Int32 → Int32 → Int32 → Int32 → Int32 → ai_V → Option ai_V} {row : List Int64} (hr : row.length < 16) : ∀ (g w q : Nat) (V : ai_V), w + g = fsw P k i L → g < q → KQ V P → TM V P n 0 → mRow V row →
    ∃ V', d_M_tellRow_26 F17 q (on (plW P)) (on n) (md P) (on L) (on i) (wi w) V = F17 (on (plW P)) (on n) (md P) (on (nxl P (wb (fsw P k i L)) i L)) (on (i + 1)) V' ∧ mRow V' (row ++ [(wi (fsw P k i L)).toInt64]) ∧ Fr wTm V V' := by
  obtain ⟨f1, f2, f3, f4⟩ := fsw_ok hP k i L
  have h6 := hP.1.1
  have hR := hP.2.2.2.1
  have h64 := Nat.lt_of_lt_of_le hP.2.2.2.2 (two_le h6)
  have hb := vld_lt (bst_vld hP (k + 1) i L (by omega) hL) (by omega)
  -- to 41, or past it
  have to41 : ∀ w q V, w ≤ 6 → gw P w → d_M_tellRow_26 F17 (q + 1) (on (plW P)) (on n) (md P) (on L) (on i) (wi w) V = d_M_tellRow_41 F17 (d_M_tellRow_26 F17 q) (on (plW P)) (on n) (md P) (on L) (on i) (wi w) V := by
    intro w q V hw hg
    rw [d_M_tellRow_26]
    by_cases e : w = 0
    · subst e; rw [if_pos (show wi 0 = -1 from rfl)]
    · have hbit : (plW P).testBit (w - 1) = true := by
        rcases hg with h | h
        · exact absurd h e
        · exact h.2
      rw [if_neg (wi_ne e hw), wi, if_neg e, mhas_on h64 (by omega), bd_some, if_neg (by rw [tf_pos hbit]; decide)]
  have past : ∀ w q V, w ≤ 6 → ¬ gw P w → d_M_tellRow_26 F17 (q + 1) (on (plW P)) (on n) (md P) (on L) (on i) (wi w) V = d_M_tellRow_26 F17 q (on (plW P)) (on n) (md P) (on L) (on i) (wi (w + 1)) V := by
    intro w q V hw hg
    have e : w ≠ 0 := fun h => hg (Or.inl h)
    have hbit : ¬ (plW P).testBit (w - 1) = true := by
      intro hbit
      have := bit_lt hP.2.2.2.2 hbit
      exact hg (Or.inr ⟨by omega, hbit⟩)
    rw [d_M_tellRow_26, if_neg (wi_ne e hw), ← wi_s, wi, if_neg e, mhas_on h64 (by omega), bd_some, if_pos (tf_neg hbit), d_M_tellRow_69]
  intro g
  induction g with
  | zero =>
    intro w q V hw hq K hT hm
    obtain ⟨q, rfl⟩ : ∃ n', q = n' + 1 := ⟨q - 1, by omega⟩
    obtain rfl : w = fsw P k i L := by omega
    generalize fsw P k i L = w at *
    obtain ⟨V1, e1, F1⟩ := M_left hP hn hik K (fun i' L' h1 h2 h3 => hT i' L' (by omega) h2 h3) hL f2
    have K1 := K.fr F1 rfl rfl
    have T1 := hT.fr F1 rfl
    have m1 := hm.fr F1 rfl
    obtain ⟨V2, e2, m2, F2⟩ := m_tell m1 hr (wi w).toInt64
    have K2 := K1.fr F2 rfl rfl
    obtain ⟨V3, x, e3, a3, V4, e4, a4, F4⟩ := M_qt hP K2 (i := i) (by omega) hL f2
    have hrow : ga V1 104 (1000 * i + L) = on (bst P (k + 1) i L) := by
      rw [T1 i L (by omega) (by omega) hL, show n - i = k + 1 by omega]
    have e104 : d_M_tellRow_104 F17 (on (plW P)) (on n) (md P) (on L) (on i) (on (wb w)) (on L) (gi V2 89 8) V2 = F17 (on (plW P)) (on n) (md P) (on (nxl P (wb w) i L)) (on (i + 1)) V4 := by
      rw [d_M_tellRow_104, show ((13 : Int32)).toNatClampNeg = 13 from rfl, K2.2.2, on_add, e3, bd_some, a3, on_add, K2.2.1, e4, bd_some, on_s]
    have e41 : (if ¬ wi w = -1 then d_M_tellRow_104 F17 (on (plW P)) (on n) (md P) (on L) (on i) ((1 : Int32) <<< (wi w &&& 31)) (on L) (gi V2 89 8) V2 else d_M_tellRow_104 F17 (on (plW P)) (on n) (md P) (on L) (on i) (0 : Int32) (on L) (gi V2 89 8) V2) = d_M_tellRow_104 F17 (on (plW P)) (on n) (md P) (on L) (on i) (on (wb w)) (on L) (gi V2 89 8) V2 := by
      by_cases e : w = 0
      · subst e; rw [if_neg (fun h => h rfl)]; rfl
      · rw [if_pos (wi_ne e f1), wb, if_neg e, wi, if_neg e, sh_on (by omega)]
    rw [to41 w q V f1 f2, d_M_tellRow_41, e1, bd_some, show (1000 : Int32) = on 1000 from rfl, on_mul, on_add, if_pos (by rw [on_in (by omega)]; omega), on_nn (by omega), hrow, if_pos (by rw [f3]), e2, bd_some, e41, e104]
    exact ⟨V4, rfl, m2.fr F4 rfl, Fr.tr (Fr.tr (Fr.tr Fr.rf F1 rfl) F2 rfl) F4 rfl⟩
  | succ g ih =>
    intro w q V hw hq K hT hm
    obtain ⟨q, rfl⟩ : ∃ n', q = n' + 1 := ⟨q - 1, by omega⟩
    by_cases hg : gw P w
    · obtain ⟨V1, e1, F1⟩ := M_left hP hn hik K (fun i' L' h1 h2 h3 => hT i' L' (by omega) h2 h3) hL hg
      have T1 := hT.fr F1 rfl
      have hrow : ga V1 104 (1000 * i + L) = on (bst P (k + 1) i L) := by
        rw [T1 i L (by omega) (by omega) hL, show n - i = k + 1 by omega]
      have hc := (cst_vld hP (k := k) (by omega) (fun L hL => bst_vld hP k (i + 1) L (by omega) hL) hg (i := i) (by omega) hL).1
      have hcb : cst P (bst P k (i + 1)) i L w ≤ 1000000000 := vld_lt hc (by omega)
      have hne : ¬ cst P (bst P k (i + 1)) i L w = bst P (k + 1) i L := fun h => f4 w (by omega) ⟨hg, h⟩
      obtain ⟨V2, e2, m2, F2⟩ := ih (w + 1) q V1 (by omega) (by omega) (K.fr F1 rfl rfl) T1 (hm.fr F1 rfl)
      rw [to41 w q V (by omega) hg, d_M_tellRow_41, e1, bd_some, show (1000 : Int32) = on 1000 from rfl, on_mul, on_add, if_pos (by rw [on_in (by omega)]; omega), on_nn (by omega), hrow, if_neg (by
        show ¬ on _ = on _
        rw [on_inj (by omega) (by omega)]; exact hne), d_M_tellRow_69, wi_s, e2]
      exact ⟨V2, rfl, m2, Fr.tr (Fr.tr Fr.rf F1 rfl) F2 rfl⟩
    · rw [past w q V (by omega) hg]
      exact ih (w + 1) q V (by omega) (by omega) K hT hm
theorem M_tell {P : PL} {n : Nat} (hP : PO P) (hn : n ≤ 12) : ∀ (k i L q : Nat) (row : List Int64) (V : ai_V), i + k = n → k < q → L ≤ plR P → row.length + k ≤ 12 → mRow V row → KQ V P → TM V P n 0 →
    ∃ V', d_M_tellRow_17 q (on (plW P)) (on n) (md P) (on L) (on i) V = some V' ∧ mRow V' (row ++ pth P k i L) ∧ Fr wTm V V' := by
  intro k
  induction k with
  | zero =>
    intro i L q row V hi hq hL hr hm K hT
    obtain ⟨q, rfl⟩ : ∃ n', q = n' + 1 := ⟨q - 1, by omega⟩
    rw [d_M_tellRow_17, if_pos (by rw [on_le (by omega) (by omega)]; omega)]
    exact ⟨V, rfl, by rw [pth, List.append_nil]; exact hm, Fr.rf⟩
  | succ k ih =>
    intro i L q row V hi hq hL hr hm K hT
    obtain ⟨q, rfl⟩ : ∃ n', q = n' + 1 := ⟨q - 1, by omega⟩
    obtain ⟨f1, f2, f3, f4⟩ := fsw_ok hP k i L
    have nl := (nx_ok hP f2 (i := i) (by omega) hL).2.1
    obtain ⟨V1, e1, m1, F1⟩ := M_t26 hP hn (show i + (k + 1) = n by omega) hL (F17 := d_M_tellRow_17 q) (row := row) (by omega) (fsw P k i L) 0 ai_N V (by omega) (N_gt (by omega)) K hT hm
    have e1' : d_M_tellRow_26 (d_M_tellRow_17 q) ai_N (on (plW P)) (on n) (md P) (on L) (on i) (-1) V = _ := e1
    obtain ⟨V2, e2, m2, F2⟩ := ih (i + 1) (nxl P (wb (fsw P k i L)) i L) q (row ++ [(wi (fsw P k i L)).toInt64]) V1 (by omega) (by omega) nl (by rw [List.length_append, List.length_singleton]; omega) m1 (K.fr F1 rfl rfl) (hT.fr F1 rfl)
    rw [d_M_tellRow_17, if_neg (by rw [on_le (by omega) (by omega)]; omega), e1', e2]
    refine ⟨V2, rfl, ?_, Fr.tr F1 F2 rfl⟩
    rw [pth, show row ++ (wi (fsw P k i L)).toInt64 :: pth P k (i + 1) (nxl P (wb (fsw P k i L)) i L) = row ++ [(wi (fsw P k i L)).toInt64] ++ pth P k (i + 1) (nxl P (wb (fsw P k i L)) i L) by simp]
    exact m2
/-! both questions -/
def fwO (P : PL) (n l : Nat) : Option (List Int64) := if plF P = true ∧ bst P n 0 l = 1000000000 then none else some (pth P n 0 l)
def fwV (P : PL) (n l : Nat) : Int32 := if plF P = true then (if bst P n 0 l = 1000000000 then -2 else on (bst P n 0 l / 10000)) else on (bst P n 0 l / 100)
def wXp : Fw := ([(15, 2), (15, 3), (15, 4), (15, 5), (65, 0), (65, 1), (64, 3), (64, 4), (64, 5), (64, 6), (65, 2), (22, 1)], [12, 13, 66, 67, 119, 23])
theorem X_pl {P : PL} {n l : Nat} {V : ai_V} (hP : PO P) (hn : n ≤ 12) (hl : l ≤ plR P) (K : KC V P.1 P.2.1) (hg : gr V 64 2 = some 119) (h0 : gi V 16 0 = on P.2.2.1) (h1 : gi V 16 1 = on l) (h2 : gi V 16 2 = on (plR P)) :
    ∃ V', ((d_Plan_leastCost_17 (on (plW P)) (on n) (tf (plF P = true)) V).bind fun q3 => if plF P = true then d_X_fewest_38 q3.1 q3.2 else d_X_driest_38 q3.1 q3.2) = some (fwV P n l, V') ∧ cRo V V' (fwO P n l) ∧ Fr wXp V V' := by
  obtain ⟨V1, e1, K1, B1, F1⟩ := C_lc hP hn hl K hg h0 h1 h2
  have F1' : Fr wXp V V1 := Fr.tr Fr.rf F1 rfl
  have hv := bst_vld hP n 0 l (by omega) hl
  have hb := (gA_le (show n ≤ 12 by omega) hv hv).2
  have tel : bst P n 0 l ≠ 1000000000 → ∃ V', d_Plan_tellInto (on l) V1 = some V' ∧ cRow V' (pth P n 0 l) ∧ Fr wXp V V' := by
    intro hf
    obtain ⟨q1, q2⟩ := row_clear V1
    have Fc : Fr ([(22, 1)], []) V1 (si V1 22 1 0) := Fr.si Fr.rf rfl
    obtain ⟨V2, e2, c2, F2⟩ := C_tell hP hn n 0 l ai_N [] (si V1 22 1 0) (by omega) (N_gt (by omega)) hl hf (by rw [List.length_nil]; omega) q2 (K1.fr Fc rfl rfl) (B1.fr Fc rfl)
    have e2' : d_Plan_tellInto_6 ai_N (on l) 0 (si V1 22 1 0) = some V2 := e2
    rw [d_Plan_tellInto, q1, bd_some, e2']
    exact ⟨V2, rfl, by rw [List.nil_append] at c2; exact c2, Fr.tr (Fr.tr F1' Fc rfl) F2 rfl⟩
  rw [e1, bd_some, fwV, fwO]
  by_cases eF : plF P = true
  · rw [if_pos eF, if_pos eF, d_X_fewest_38]
    by_cases ei : bst P n 0 l = 1000000000
    · rw [if_pos ei, if_pos (show plF P = true ∧ bst P n 0 l = 1000000000 from ⟨eF, ei⟩), if_neg (show ¬ on (gA P (bst P n 0 l)) < 1000000 by rw [hb.2.mpr ei]; decide)]
      exact ⟨V1, rfl, cRo.no F1 rfl, F1'⟩
    · obtain ⟨V2, e2, c2, F2⟩ := tel ei
      have hlt : gA P (bst P n 0 l) ≠ 1000000 := fun h => ei (hb.2.mp h)
      rw [if_neg ei, if_neg (show ¬ (plF P = true ∧ bst P n 0 l = 1000000000) from fun h => ei h.2), if_pos (show on (gA P (bst P n 0 l)) < 1000000 by
        show on _ < on 1000000
        rw [on_lt (by omega) (by omega)]; omega), F1.gi 16 1 rfl, h1, e2, bd_some]
      refine ⟨V2, ?_, c2, F2⟩
      have : gA P (bst P n 0 l) / 1000 = bst P n 0 l / 10000 := by
        rcases hv with ⟨-, h | ⟨a, t, h3, h4, h5⟩⟩ | ⟨h, -⟩
        · exact absurd h ei
        · rw [gA, if_neg ei, if_pos eF]; omega
        · exact absurd eF h
      rw [show (1000 : Int32) = on 1000 from rfl, on_div (by omega) (by omega), this]
  · have ei : bst P n 0 l ≠ 1000000000 := by
      rcases hv with ⟨h, -⟩ | ⟨-, a, t, h3, h4, h5⟩
      · exact absurd h eF
      · omega
    obtain ⟨V2, e2, c2, F2⟩ := tel ei
    rw [if_neg eF, if_neg eF, d_X_driest_38, if_neg (show ¬ (plF P = true ∧ bst P n 0 l = 1000000000) from fun h => eF h.1), F1.gi 16 1 rfl, h1, e2, bd_some]
    refine ⟨V2, ?_, c2, F2⟩
    have : gA P (bst P n 0 l) / 13 = bst P n 0 l / 100 := by
      rcases hv with ⟨h, -⟩ | ⟨-, a, t, h3, h4, h5⟩
      · exact absurd h eF
      · rw [gA, if_neg ei, if_neg eF]; omega
    rw [show (13 : Int32) = on 13 from rfl, on_div (by omega) (by omega), this]
theorem M_pl {P : PL} {n l : Nat} {V : ai_V} (hP : PO P) (hn : n ≤ 12) (hn1 : 1 ≤ n) (hl : l ≤ plR P) (K : KQ V P) (h1 : ga V 90 12 = on l) :
    ∃ V3, d_M_layRows (on (plW P)) (on n) (md P) V = some V3 ∧ ga V3 90 12 = on l ∧ ga V3 104 l = on (bst P n 0 l) ∧ Fr wLy V V3 ∧ ∃ V4, d_M_tellRow (on (plW P)) (on n) (md P) V3 = some V4 ∧ mRow V4 (pth P n 0 l) ∧ Fr wTm V3 V4 := by
  obtain ⟨V3, e3, T3, F3⟩ := M_lay hP hn hn1 K
  have a3 : ga V3 90 12 = on l := by rw [F3.ga 90 rfl]; exact h1
  have Fc : Fr wTm V3 (si V3 89 13 0) := Fr.si Fr.rf rfl
  obtain ⟨V4, e4, m4, F4⟩ := M_tell hP hn n 0 l ai_N [] (si V3 89 13 0) (by omega) (N_gt (by omega)) hl (by rw [List.length_nil]; omega) (m_row0 V3) ((K.fr F3 rfl rfl).fr Fc rfl rfl) (T3.fr Fc rfl)
  refine ⟨V3, e3, a3, ?_, F3, V4, ?_, by rw [List.nil_append] at m4; exact m4, Fr.tr Fc F4 rfl⟩
  · have := T3 0 l (by omega) (by omega) hl
    rw [Nat.mul_zero, Nat.zero_add, Nat.sub_zero] at this
    exact this
  · rw [d_M_tellRow, show ((12 : Int32)).toNatClampNeg = 12 from rfl, ga_si, a3]
    exact e4
