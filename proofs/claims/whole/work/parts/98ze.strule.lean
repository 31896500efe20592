/-! ===== rule: both ===== -/
def chT (T : Nat → Int32) (n i : Nat) : Int32 := if i < n ∧ i < 40 then T i else -1
theorem chT_y {T : Nat → Int32} {n i : Nat} (h : i < n) (h2 : i < 40) : chT T n i = T i := if_pos ⟨h, h2⟩
theorem chT_n {T : Nat → Int32} {n i : Nat} (h : ¬ (i < n ∧ i < 40)) : chT T n i = -1 := if_neg h
theorem chT_KH {T : Nat → Int32} {n : Nat} (h : ∀ i, 0 ≤ (T i).toInt ∧ (T i).toInt ≤ 255) : KH (chT T n) := by
  refine ⟨fun i hi => chT_n (by omega), fun i => ?_⟩
  by_cases e : i < n ∧ i < 40
  · rw [chT_y e.1 e.2]; exact Or.inr (on_255 (h i).1 (h i).2)
  · exact Or.inl (chT_n e)
theorem HC_of {V : ai_V} {n : Nat} (hn : n ≤ 80) (h : gi V 1 1 = on n) : HC V (chT (ga V 2) n) := by
  intro V' i F h1 hi
  have h' : gi V' 1 1 = on n := by rw [F.gi 1 1 rfl]; exact h
  rw [d_Rule_here, h1, show (40 : Int32) = on 40 from rfl]
  by_cases e : 40 ≤ i
  · rw [if_pos (by rw [on_le (by omega) (by omega)]; exact e), chT_n (by omega)]
  · rw [if_neg (by rw [on_le (by omega) (by omega)]; exact e)]
    by_cases e2 : i < n
    · rw [at_y hn h' e2, bd_some, F.ga 2 rfl, chT_y e2 (by omega)]
    · rw [at_n hn h' (by omega) (by omega), bd_some, chT_n (by omega)]
def wX0 : Fw := ([(10, 6), (10, 7), (1, 1)], [14])
def wX1 : Fw := ([(10, 6), (10, 7), (1, 1), (10, 1)], [14, 11])
def rR (T : Nat → Int32) (n : Nat) : Pr := rpE (chT T n) (rpT (chT T n) 4) 0
theorem X_e {V : ai_V} {n : Nat} (hn : n ≤ 80) (h1 : gi V 1 1 = on n) (hT : ∀ i, 0 ≤ (ga V 2 i).toInt ∧ (ga V 2 i).toInt ≤ 255) : CK (si (si V 10 7 0) 10 6 0) [] (d_Rule_expression 0 (si (si V 10 7 0) 10 6 0)) (rR (ga V 2) n) := by
  have hc : KH (chT (ga V 2) n) := chT_KH hT
  have hH : HC (si (si V 10 7 0) 10 6 0) (chT (ga V 2) n) := HC_of (V := si (si V 10 7 0) 10 6 0) hn (by rw [gi_si, if_neg (by decide), gi_si, if_neg (by decide)]; exact h1)
  exact C_expr hc hH (rpT_good hc 4) (C_thing hc hH 4 80 0 (by omega) (by omega)) (si (si V 10 7 0) 10 6 0) 0 [] ⟨by rw [gi_si, if_neg (by decide), gi_si, if_pos ⟨rfl, rfl⟩]; rfl, by rw [gi_si, if_pos ⟨rfl, rfl⟩]; rfl, fun q hq => absurd hq (by simp)⟩ (Nat.le_refl _) (by omega) Fr.rf
theorem rR_good {T : Nat → Int32} {n : Nat} (hT : ∀ i, 0 ≤ (T i).toInt ∧ (T i).toInt ≤ 255) : GP 0 (rR T n) := rpE_good (chT_KH hT) (rpT_good (chT_KH hT) 4) (by omega)
theorem X_rule_0 {V : ai_V} (h1 : gi V 1 1 = 0) : ∃ V', d_X_rule V = some (0, V') ∧ gi V' 10 1 = 0 ∧ gi V' 1 1 = 0 ∧ Fr wX1 V V' := by
  have e6 : gi (si (si V 10 7 0) 10 6 0) 10 6 = 0 := by rw [gi_si, if_pos ⟨rfl, rfl⟩]
  have e1 : gi (si (si V 10 7 0) 10 6 0) 1 1 = 0 := by rw [gi_si, if_neg (by decide), gi_si, if_neg (by decide)]; exact h1
  have F0 : Fr wX1 V (si (si V 10 7 0) 10 6 0) := Fr.si (Fr.si Fr.rf rfl) rfl
  rw [d_X_rule, d_Rule_read, e1, if_pos rfl, d_Rule_read_47, d_Rule_read_52, if_neg (show ¬ (1 : Int32) = 0 by decide), e1, if_pos (by decide), e6, if_pos (by decide), bd_some, d_Text_clear, bd_some]
  refine ⟨_, rfl, ?_, ?_, Fr.si (Fr.si (Fr.cp F0 rfl) rfl) rfl⟩
  · rw [gi_si, if_neg (by decide), gi_si, if_pos ⟨rfl, rfl⟩]; exact e6
  · rw [gi_si, if_pos ⟨rfl, rfl⟩]
theorem X_rule_f {V : ai_V} {n p : Nat} (hn : n ≤ 80) (h1 : gi V 1 1 = on n) (hT : ∀ i, 0 ≤ (ga V 2 i).toInt ∧ (ga V 2 i).toInt ≤ 255) (h0 : n ≠ 0) (hr : rR (ga V 2) n = .inl p) : ∃ V', d_X_rule V = some (-1 - on p, V') ∧ gi V' 1 1 = 0 ∧ Fr wX0 V V' := by
  have h := X_e hn h1 hT
  rw [hr] at h
  have e1 : gi (si (si V 10 7 0) 10 6 0) 1 1 = on n := by rw [gi_si, if_neg (by decide), gi_si, if_neg (by decide)]; exact h1
  have F0 : Fr wX0 V (si (si V 10 7 0) 10 6 0) := Fr.si (Fr.si Fr.rf rfl) rfl
  obtain ⟨V2, e2, a1, a2, F2⟩ := h
  rw [d_X_rule, d_Rule_read, e1, if_neg (by rw [zero_on, on_inj (by omega) (by omega)]; exact h0), e2, bd_some, if_pos rfl, d_Rule_read_51, d_Rule_read_52, if_pos rfl, d_Rule_read_69, bd_some, d_Text_clear, bd_some, a1]
  exact ⟨_, rfl, by rw [gi_si, if_pos ⟨rfl, rfl⟩], Fr.si (Fr.tr F0 F2 rfl) rfl⟩
theorem X_rule_s {V : ai_V} {n j : Nat} {f : Ev → Int32} {l : List Int32} (hn : n ≤ 80) (h1 : gi V 1 1 = on n) (hT : ∀ i, 0 ≤ (ga V 2 i).toInt ∧ (ga V 2 i).toInt ≤ 255) (h0 : n ≠ 0) (hr : rR (ga V 2) n = .inr (j, f, l)) (hj : j < n) : ∃ V', d_X_rule V = some (-1 - on j, V') ∧ gi V' 1 1 = 0 ∧ Fr wX0 V V' := by
  have h := X_e hn h1 hT
  have hg := rR_good (T := ga V 2) (n := n) hT
  rw [hr] at h hg
  have e1 : gi (si (si V 10 7 0) 10 6 0) 1 1 = on n := by rw [gi_si, if_neg (by decide), gi_si, if_neg (by decide)]; exact h1
  have F0 : Fr wX0 V (si (si V 10 7 0) 10 6 0) := Fr.si (Fr.si Fr.rf rfl) rfl
  obtain ⟨V2, e2, a1, F2⟩ := h
  obtain ⟨g1, g2, g3, g4, g5⟩ := hg
  have e11 : gi V2 1 1 = on n := by rw [F2.gi 1 1 rfl]; exact e1
  have e52 : (if gi V2 10 7 < ai_min (gi V2 1 1) 40 then d_Rule_read_51 V2 else d_Rule_read_47 V2) = some (-1 - on j, V2) := by
    rw [a1.1, e11, show (40 : Int32) = on 40 from rfl, min_on (by omega) (by omega)]
    by_cases e : j < min n 40
    · rw [if_pos (by rw [on_lt (by omega) (by omega)]; exact e), d_Rule_read_51, d_Rule_read_52, if_pos rfl, d_Rule_read_69, a1.1]
    · rw [if_neg (by rw [on_lt (by omega) (by omega)]; exact e), d_Rule_read_47, d_Rule_read_52, if_neg (show ¬ (1 : Int32) = 0 by decide), e11, show (40 : Int32) = on 40 from rfl, if_neg (by rw [on_le (by omega) (by omega)]; omega), d_Rule_read_69, a1.1]
  rw [d_X_rule, d_Rule_read, e1, if_neg (by rw [zero_on, on_inj (by omega) (by omega)]; exact h0), e2, bd_some, if_neg (show ¬ (1 : Int32) = 0 by decide), e52, bd_some, d_Text_clear, bd_some]
  exact ⟨_, rfl, by rw [gi_si, if_pos ⟨rfl, rfl⟩], Fr.si (Fr.tr F0 F2 rfl) rfl⟩
theorem X_rule_y {V : ai_V} {n j : Nat} {f : Ev → Int32} {l : List Int32} (hn : n ≤ 80) (h1 : gi V 1 1 = on n) (hT : ∀ i, 0 ≤ (ga V 2 i).toInt ∧ (ga V 2 i).toInt ≤ 255) (h0 : n ≠ 0) (hr : rR (ga V 2) n = .inr (j, f, l)) (hj : n ≤ j) : ∃ V', d_X_rule V = some (0, V') ∧ gi V' 10 1 = on l.length ∧ (∀ q, q < l.length → ga V' 11 q = l.getD q 0) ∧ gi V' 1 1 = 0 ∧ Fr wX1 V V' := by
  have h := X_e hn h1 hT
  have hg := rR_good (T := ga V 2) (n := n) hT
  rw [hr] at h hg
  have e1 : gi (si (si V 10 7 0) 10 6 0) 1 1 = on n := by rw [gi_si, if_neg (by decide), gi_si, if_neg (by decide)]; exact h1
  have F0 : Fr wX1 V (si (si V 10 7 0) 10 6 0) := Fr.si (Fr.si Fr.rf rfl) rfl
  obtain ⟨V2, e2, a1, F2⟩ := h
  obtain ⟨g1, g2, g3, g4, g5⟩ := hg
  rw [List.nil_append] at a1
  obtain ⟨a1, a2, a3⟩ := a1
  have e11 : gi V2 1 1 = on n := by rw [F2.gi 1 1 rfl]; exact e1
  have h0n : ((0 : Int32)).toNatClampNeg = 0 := rfl
  rw [d_X_rule, d_Rule_read, e1, if_neg (by rw [zero_on, on_inj (by omega) (by omega)]; exact h0), e2, bd_some, if_neg (show ¬ (1 : Int32) = 0 by decide), a1, e11, show (40 : Int32) = on 40 from rfl, min_on (by omega) (by omega), if_neg (by rw [on_lt (by omega) (by omega)]; omega), d_Rule_read_47, d_Rule_read_52, if_neg (show ¬ (1 : Int32) = 0 by decide), e11, show (40 : Int32) = on 40 from rfl, if_pos (by rw [on_le (by omega) (by omega)]; omega), a2, if_pos ⟨by decide, by decide, on_ge0 (by omega), by rw [on_nn (by omega), h0n]; omega, by rw [on_nn (by omega), h0n]; omega⟩, bd_some, d_Text_clear, bd_some]
  refine ⟨_, rfl, ?_, fun q hq => ?_, ?_, Fr.si (Fr.si (Fr.cp (Fr.tr F0 F2 rfl) rfl) rfl) rfl⟩
  · rw [gi_si, if_neg (by decide), gi_si, if_pos ⟨rfl, rfl⟩]; exact a2
  · rw [ga_si, ga_si, ga_cpy, if_pos rfl, h0n, on_nn (by omega), if_pos (by omega), show 0 + (q - 0) = q by omega]; exact a3 q hq
  · rw [gi_si, if_pos ⟨rfl, rfl⟩]
/-! the model -/
def TQ (V : ai_V) (o : Nat) (T : Nat → Int32) (n : Nat) : Prop := ∀ i, i < n → i < 40 → ga V o i = sx (T i) ∧ 0 ≤ (T i).toInt ∧ (T i).toInt ≤ 255
theorem TQ.at {V : ai_V} {o n : Nat} {T : Nat → Int32} (h : TQ V o T n) {i : Nat} (h1 : i < n) (h2 : i < 40) : ga V o i &&& 255 = T i := by
  obtain ⟨h1, h2, h3⟩ := h i h1 h2
  obtain ⟨b, hb, e⟩ := on_255 h2 h3
  rw [h1, e, sx_and b hb]
theorem TQ.lo {V : ai_V} {o n : Nat} {T : Nat → Int32} (h : TQ V o T n) {i : Nat} (h1 : i < n) (h2 : i < 40) (hl : (T i).toInt ≤ 127) : ga V o i = T i := by
  obtain ⟨h1, h2, h3⟩ := h i h1 h2
  obtain ⟨b, hb, e⟩ := on_255 h2 h3
  rw [e, on_ti (by omega)] at hl
  rw [h1, e, sx_lo b (by omega)]
theorem chT_lt {T : Nat → Int32} {n i : Nat} (h : ¬ chT T n i = -1) : i < n ∧ i < 40 := by
  apply Classical.byContradiction
  intro hn
  exact h (chT_n hn)
theorem chT_dg {T : Nat → Int32} {n i : Nat} (h : btw (chT T n i) 48 57) : i < n ∧ i < 40 ∧ (T i).toInt ≤ 127 := by
  obtain ⟨b, b1, b2, b3⟩ := btw_on h
  obtain ⟨h1, h2⟩ := chT_lt (show ¬ chT T n i = -1 by rw [b3]; exact on_ne_m1 (by omega))
  rw [chT_y h1 h2] at b3
  refine ⟨h1, h2, ?_⟩
  rw [b3, on_ti (by omega)]; omega
theorem HM_96 {V0 : ai_V} {T : Nat → Int32} {n : Nat} (hn : n ≤ 80) (h15 : gr V0 89 15 = some 96) (h16 : gi V0 89 16 = on n) (h17 : gi V0 89 17 = 40) (t : TQ V0 96 T n) : HM V0 (chT T n) := by
  intro V i F h1 hi
  have e15 : gr V 89 15 = some 96 := by
    have := F.2.2
    rcases F.2.2 with h | h | h
    · rw [h]; exact h15
    · rw [(F.1 89 15 rfl).2.2]; exact h15
    · rw [(F.1 89 15 rfl).2.2]; exact h15
  rw [d_M_here, F.gi 89 16 rfl, h16, F.gi 89 17 rfl, h17, h1, show (40 : Int32) = on 40 from rfl]
  by_cases e : i < n
  · rw [if_neg (by rw [on_le (by omega) (by omega)]; omega)]
    by_cases e2 : i < 40
    · rw [if_neg (by rw [on_le (by omega) (by omega)]; omega), if_pos e15, if_pos (by rw [on_in (by omega)]; omega), on_nn (by omega), F.ga 96 rfl, t.at e e2, chT_y e e2]
    · rw [if_pos (by rw [on_le (by omega) (by omega)]; omega), chT_n (by omega)]
  · rw [if_pos (by rw [on_le (by omega) (by omega)]; omega), chT_n (by omega)]
theorem HD_96 {V0 : ai_V} {T : Nat → Int32} {n : Nat} (hn : n ≤ 80) (h15 : gr V0 89 15 = some 96) (h16 : gi V0 89 16 = on n) (h17 : gi V0 89 17 = 40) (t : TQ V0 96 T n) : HD V0 (chT T n) := by
  intro V i F h1 h2 hd hi
  obtain ⟨d1, d2, d3⟩ := chT_dg hd
  have e15 : gr (si V 89 18 (on (i + 1))) 89 15 = some 96 := by
    rw [gr_si, (F.1 89 15 rfl).2.2]; exact h15
  have hs : on (i + 1) - (1 : Int32) = on i := on_p1 i
  rw [d_M_digit, fine_y h2, bd_some, if_pos (by decide), HM_96 hn h15 h16 h17 t V i F h1 (by omega), bd_some, show (48 : Int32) + 0 = 48 by decide, show (48 : Int32) + 9 = 57 by decide, in_eq, bd_some, if_pos (by rw [tf_pos hd]; decide), h1, on_s, if_pos e15, go_18, hs, if_pos (by rw [on_in (by omega)]; omega), on_nn (by omega), ga_si, F.ga 96 rfl, t.lo d1 d2 d3, chT_y d1 d2]
theorem HM_99 {V0 : ai_V} {T : Nat → Int32} {n : Nat} (hn : n ≤ 80) (h15 : gr V0 89 15 = some 99) (h16 : gi V0 89 16 = on n) (h17 : gi V0 89 17 = 40) (t : TQ V0 99 T n) : HM V0 (chT T n) := by
  intro V i F h1 hi
  have e15 : gr V 89 15 = some 99 := by
    have := F.2.2
    rcases F.2.2 with h | h | h
    · rw [h]; exact h15
    · rw [(F.1 89 15 rfl).2.2]; exact h15
    · rw [(F.1 89 15 rfl).2.2]; exact h15
  rw [d_M_here, F.gi 89 16 rfl, h16, F.gi 89 17 rfl, h17, h1, show (40 : Int32) = on 40 from rfl]
  by_cases e : i < n
  · rw [if_neg (by rw [on_le (by omega) (by omega)]; omega)]
    by_cases e2 : i < 40
    · rw [if_neg (by rw [on_le (by omega) (by omega)]; omega), if_neg (by rw [e15]; decide), if_pos e15, if_pos (by rw [on_in (by omega)]; omega), on_nn (by omega), F.ga 99 rfl, t.at e e2, chT_y e e2]
    · rw [if_pos (by rw [on_le (by omega) (by omega)]; omega), chT_n (by omega)]
  · rw [if_pos (by rw [on_le (by omega) (by omega)]; omega), chT_n (by omega)]
theorem HD_99 {V0 : ai_V} {T : Nat → Int32} {n : Nat} (hn : n ≤ 80) (h15 : gr V0 89 15 = some 99) (h16 : gi V0 89 16 = on n) (h17 : gi V0 89 17 = 40) (t : TQ V0 99 T n) : HD V0 (chT T n) := by
  intro V i F h1 h2 hd hi
  obtain ⟨d1, d2, d3⟩ := chT_dg hd
  have e15 : gr (si V 89 18 (on (i + 1))) 89 15 = some 99 := by
    rw [gr_si, (F.1 89 15 rfl).2.2]; exact h15
  have hs : on (i + 1) - (1 : Int32) = on i := on_p1 i
  rw [d_M_digit, fine_y h2, bd_some, if_pos (by decide), HM_99 hn h15 h16 h17 t V i F h1 (by omega), bd_some, show (48 : Int32) + 0 = 48 by decide, show (48 : Int32) + 9 = 57 by decide, in_eq, bd_some, if_pos (by rw [tf_pos hd]; decide), h1, on_s, if_neg (by rw [e15]; decide), if_pos e15, go_18, hs, if_pos (by rw [on_in (by omega)]; omega), on_nn (by omega), ga_si, F.ga 99 rfl, t.lo d1 d2 d3, chT_y d1 d2]
theorem HV_0 {V0 : ai_V} {c : Nat → Int32} (h : gi V0 89 23 = 0) : HV V0 c (fun _ => 0) := by
  intro T V i F h1 hv
  have F2 : Fr wP V0 (si V 89 18 (on (i + 1))) := go8 F
  rw [d_M_thing_176, h1, on_s, F2.gi 89 23 rfl, h, if_pos rfl]
theorem vIx_c {x : Int32} (h : vIx x < 7) : (x = 116 ∧ vIx x = 0) ∨ (x = 112 ∧ vIx x = 1) ∨ (x = 119 ∧ vIx x = 2) ∨ (x = 108 ∧ vIx x = 3) ∨ (x = 110 ∧ vIx x = 4) ∨ (x = 113 ∧ vIx x = 5) ∨ (x = 121 ∧ vIx x = 6) := by
  by_cases g : x = 116
  · subst g; exact Or.inl ⟨rfl, rfl⟩
  by_cases g1 : x = 112
  · subst g1; exact Or.inr (Or.inl ⟨rfl, rfl⟩)
  by_cases g2 : x = 119
  · subst g2; exact Or.inr (Or.inr (Or.inl ⟨rfl, rfl⟩))
  by_cases g3 : x = 108
  · subst g3; exact Or.inr (Or.inr (Or.inr (Or.inl ⟨rfl, rfl⟩)))
  by_cases g4 : x = 110
  · subst g4; exact Or.inr (Or.inr (Or.inr (Or.inr (Or.inl ⟨rfl, rfl⟩))))
  by_cases g5 : x = 113
  · subst g5; exact Or.inr (Or.inr (Or.inr (Or.inr (Or.inr (Or.inl ⟨rfl, rfl⟩)))))
  by_cases g6 : x = 121
  · subst g6; exact Or.inr (Or.inr (Or.inr (Or.inr (Or.inr (Or.inr ⟨rfl, rfl⟩)))))
  rw [vIx, if_neg g, if_neg g1, if_neg g2, if_neg g3, if_neg g4, if_neg g5, if_neg g6] at h
  omega
theorem HV_1 {V0 : ai_V} {c : Nat → Int32} (h : gi V0 89 23 = 1) (hin : ai_in (gi V0 89 24) 6) : HV V0 c (ev7 (gi V0 89 25) (ga V0 92 (gi V0 89 24).toNatClampNeg) (ga V0 93 (gi V0 89 24).toNatClampNeg) (gi V0 89 26) (gi V0 89 27) (gi V0 89 28) (ga V0 91 (gi V0 89 24).toNatClampNeg)) := by
  intro T V i F h1 hv
  have F2 : Fr wP V0 (si V 89 18 (on (i + 1))) := (go8 F)
  have hin2 : ai_in (gi (si V 89 18 (on (i + 1))) 89 24) 6 := by rw [F2.gi 89 24 rfl]; exact hin
  rw [d_M_thing_176, h1, on_s, F2.gi 89 23 rfl, h, if_neg (by decide), d_M_valueOf]
  rcases vIx_c hv with ⟨e, e2⟩ | ⟨e, e2⟩ | ⟨e, e2⟩ | ⟨e, e2⟩ | ⟨e, e2⟩ | ⟨e, e2⟩ | ⟨e, e2⟩
  · rw [e2, e, if_neg (by decide), if_neg (by decide), if_neg (by decide), if_neg (by decide), if_neg (by decide), if_neg (by decide), if_neg (by decide), if_neg (by decide), if_pos rfl, bd_some, F2.gi 89 25 rfl]; rfl
  · rw [e2, e, if_neg (by decide), if_neg (by decide), if_neg (by decide), if_neg (by decide), if_pos rfl, if_pos hin2, bd_some, F2.gi 89 24 rfl, F2.ga 92 rfl]; rfl
  · rw [e2, e, if_neg (by decide), if_neg (by decide), if_neg (by decide), if_neg (by decide), if_neg (by decide), if_neg (by decide), if_neg (by decide), if_neg (by decide), if_neg (by decide), if_neg (by decide), if_neg (by decide), if_pos rfl, if_pos hin2, bd_some, F2.gi 89 24 rfl, F2.ga 93 rfl]; rfl
  · rw [e2, e, if_pos rfl, bd_some, F2.gi 89 26 rfl]; rfl
  · rw [e2, e, if_neg (by decide), if_neg (by decide), if_pos rfl, bd_some, F2.gi 89 27 rfl]; rfl
  · rw [e2, e, if_neg (by decide), if_neg (by decide), if_neg (by decide), if_neg (by decide), if_neg (by decide), if_pos rfl, bd_some, F2.gi 89 28 rfl]; rfl
  · rw [e2, e, if_neg (by decide), if_neg (by decide), if_neg (by decide), if_neg (by decide), if_neg (by decide), if_neg (by decide), if_neg (by decide), if_neg (by decide), if_neg (by decide), if_neg (by decide), if_neg (by decide), if_neg (by decide), if_pos hin2, bd_some, F2.gi 89 24 rfl, F2.ga 91 rfl]; rfl
theorem MR_new {V : ai_V} {T : Nat → Int32} {n j : Nat} {f : Ev → Int32} {l : List Int32} (hn : n ≤ 80) (h0 : n ≠ 0) (hT : ∀ i, 0 ≤ (T i).toInt ∧ (T i).toInt ≤ 255) (h22 : gi V 89 22 = on n) (t : TQ V 99 T n) (hr : rR T n = .inr (j, f, l)) : MR V (fun t p w l n q y => f (ev7 t p w l n q y)) := by
  refine Or.inr ⟨by rw [h22, zero_on, on_le (by omega) (by omega)]; omega, fun V' e1 e2 ha => ?_⟩
  obtain ⟨m1, m2, m3, m4, m5, m6, m7⟩ := ha
  have hc : KH (chT T n) := chT_KH hT
  have t' : TQ V' 99 T n := by unfold TQ; rw [e2]; exact t
  have h16 : gi V' 89 16 = on n := by rw [m2, e1]; exact h22
  have hH := HM_99 hn m1 h16 m3 t'
  have h := M_held hc hH (rpT_good hc 4) (M_thing hc hH (HD_99 hn m1 h16 m3 t') (HV_1 m6 m7) 80 4 0 (by omega)) V' 0 (by omega) (by omega) Fr.rf m4 m5
  have hr' : rpE (chT T n) (rpT (chT T n) 4) 0 = .inr (j, f, l) := hr
  rw [hr'] at h
  obtain ⟨V2, e3, -, -, -⟩ := h
  exact ⟨_, V2, e3, rfl⟩
def wM0 : Fw := ([(89, 11), (89, 14), (89, 15), (89, 16), (89, 17), (89, 18), (89, 19), (89, 23)], [])
def wM1 : Fw := ([(89, 11), (89, 14), (89, 15), (89, 16), (89, 17), (89, 18), (89, 19), (89, 23), (89, 22)], [99])
theorem M_start (W : ai_V) (n : Nat) : ∃ W0, d_M_begin (on n) 40 (si W 89 14 0) = some W0 ∧ gr (si (si W0 89 11 0) 89 23 0) 89 15 = some 96 ∧ gi (si (si W0 89 11 0) 89 23 0) 89 16 = on n ∧ gi (si (si W0 89 11 0) 89 23 0) 89 17 = 40 ∧ gi (si (si W0 89 11 0) 89 23 0) 89 18 = on 0 ∧ gi (si (si W0 89 11 0) 89 23 0) 89 19 = -1 ∧ gi (si (si W0 89 11 0) 89 23 0) 89 23 = 0 ∧ gi (si (si W0 89 11 0) 89 23 0) 89 11 = 0 ∧ Fr wM0 W (si (si W0 89 11 0) 89 23 0) := by
  refine ⟨_, rfl, ?_, ?_, ?_, ?_, ?_, ?_, ?_, Fr.si (Fr.si (Fr.si (Fr.si (Fr.si (Fr.si (Fr.sr (Fr.si Fr.rf rfl) rfl (Or.inl rfl)) rfl) rfl) rfl) rfl) rfl) rfl⟩
  · simp only [gr_si]; rw [gr_sr, if_pos ⟨rfl, rfl⟩]
  · simp only [gi_si]; simp
  · simp only [gi_si]; simp
  · simp only [gi_si]; simp; rfl
  · simp only [gi_si]; simp
  · simp only [gi_si]; simp
  · simp only [gi_si]; simp
theorem nar_sx : ∀ b, b < 256 → vp_nar .byte (sx (on b)) = sx (on b) := by decide +kernel
theorem M_71 {V : ai_V} {T : Nat → Int32} {n : Nat} (hn : n ≤ 40) (t : TX V T) : ∃ V', d_M_rule_71 (on n) V = some (0, si V' 89 22 (on n)) ∧ (∀ i, i < n → ga V' 99 i = sx (T i)) ∧ Fr ([], [99]) V V' := by
  rw [d_M_rule_71]
  refine loop_n (fun q (_ : Unit) x V => d_M_rule_73 q (on n) x V) (fun c : ai_V => some (0, si c 89 22 (on n))) (fun i _ V1 => (∀ k, k < i → ga V1 99 k = sx (T k)) ∧ Fr ([], [99]) V V1) (fun V' => (∀ k, k < n → ga V' 99 k = sx (T k)) ∧ Fr ([], [99]) V V') n ?_ ?_ n 0 ai_N () V (by omega) (N_gt (by omega)) ⟨fun k hk => absurd hk (by omega), Fr.rf⟩
  · rintro q _ i V1 hi ⟨a1, hF⟩
    show ∃ a' V', d_M_rule_73 (q + 1) (on n) (on i) V1 = _ ∧ _
    rw [d_M_rule_73, if_neg (by rw [on_le (by omega) (by omega)]; omega), if_pos (by rw [on_in (by omega)]; omega), if_pos (by rw [on_in (by omega)]; omega), on_s, on_nn (by omega)]
    refine ⟨(), _, rfl, fun k hk => ?_, Fr.sa hF rfl⟩
    rw [ga_sa]
    by_cases e : k = i
    · rw [if_pos ⟨rfl, e⟩, hF.ga 96 rfl, e]
      obtain ⟨t1, t2, t3⟩ := t i
      obtain ⟨b, hb, eb⟩ := on_255 t2 t3
      rw [t1, eb, nar_sx b hb]
    · rw [if_neg (fun hc => e hc.2)]; exact a1 k (by omega)
  · rintro q _ V1 ⟨a1, hF⟩
    show ∃ c : ai_V, d_M_rule_73 (q + 1) (on n) (on n) V1 = _ ∧ _
    rw [d_M_rule_73, if_pos (Int32.le_refl _)]
    exact ⟨V1, rfl, a1, hF⟩
theorem M_e {W : ai_V} {T : Nat → Int32} {n : Nat} (hn : n ≤ 80) (h15 : gr W 89 15 = some 96) (h16 : gi W 89 16 = on n) (h17 : gi W 89 17 = 40) (h18 : gi W 89 18 = on 0) (h19 : gi W 89 19 = -1) (h23 : gi W 89 23 = 0) (t : TX W T) : MO W (fun _ => 0) (d_M_held 0 W) (rR T n) := by
  have hc : KH (chT T n) := chT_KH (fun i => (t i).2)
  have t' : TQ W 96 T n := fun i _ _ => t i
  have hH := HM_96 hn h15 h16 h17 t'
  exact M_held hc hH (rpT_good hc 4) (M_thing hc hH (HD_96 hn h15 h16 h17 t') (HV_0 h23) 80 4 0 (by omega)) W 0 (by omega) (by omega) Fr.rf h18 h19
theorem M_rule_0 {W : ai_V} {T : Nat → Int32} (h11 : gi W 89 11 = on 0) (t : TX W T) : ∃ V', d_M_rule W = some (0, V') ∧ gi V' 89 22 = 0 ∧ gi V' 89 11 = 0 ∧ Fr wM1 W V' := by
  obtain ⟨W0, e0, h15, h16, h17, h18, h19, h23, h1, F0⟩ := M_start W 0
  have F0' : Fr wM1 W (si (si W0 89 11 0) 89 23 0) := Fr.tr Fr.rf F0 rfl
  obtain ⟨V2, e2, a2, F2⟩ := M_71 (T := T) (n := 0) (by omega) (t.fr F0 rfl)
  rw [d_M_rule, m14 _ _ 89 11 (by decide), h11, e0, bd_some, if_pos (by decide), e2]
  refine ⟨_, rfl, ?_, ?_, Fr.si (Fr.tr F0' F2 rfl) rfl⟩
  · rw [gi_si, if_pos ⟨rfl, rfl⟩]; rfl
  · rw [gi_si, if_neg (by decide), F2.gi 89 11 rfl]; exact h1
theorem M_rule_f {W : ai_V} {T : Nat → Int32} {n p : Nat} (hn : n ≤ 80) (h11 : gi W 89 11 = on n) (t : TX W T) (h0 : n ≠ 0) (hr : rR T n = .inl p) : ∃ V', d_M_rule W = some (-1 - on p, V') ∧ gi V' 89 11 = 0 ∧ Fr wM0 W V' := by
  obtain ⟨W0, e0, h15, h16, h17, h18, h19, h23, h1, F0⟩ := M_start W n
  have h := M_e hn h15 h16 h17 h18 h19 h23 (t.fr F0 rfl)
  have hg := rR_good (T := T) (n := n) (fun i => (t i).2)
  rw [hr] at h hg
  obtain ⟨v, V2, e2, a1, F2⟩ := h
  have hp := hg.2
  have o57 : d_M_rule_57 (on n) V2 = some (-1 - on p, V2) := by
    rw [d_M_rule_57, fine_n a1 (by omega), bd_some, if_neg (fun h => h rfl), a1]
  rw [d_M_rule, m14 _ _ 89 11 (by decide), h11, e0, bd_some, if_neg (by rw [zero_on, on_le (by omega) (by omega)]; omega), e2, bd_some]
  refine ⟨V2, ?_, by rw [F2.gi 89 11 rfl]; exact h1, Fr.tr F0 F2 rfl⟩
  simp only [fault_n a1 (show p < 2147483648 by omega), bd_some, o57]
  by_cases e : on n ≤ gi V2 89 18
  · rw [if_pos e]
  · rw [if_neg e]
theorem M_rule_s {W : ai_V} {T : Nat → Int32} {n j : Nat} {f : Ev → Int32} {l : List Int32} (hn : n ≤ 80) (h11 : gi W 89 11 = on n) (t : TX W T) (h0 : n ≠ 0) (hr : rR T n = .inr (j, f, l)) (hj : j < n) : ∃ V', d_M_rule W = some (-1 - on j, V') ∧ gi V' 89 11 = 0 ∧ Fr wM0 W V' := by
  obtain ⟨W0, e0, h15, h16, h17, h18, h19, h23, h1, F0⟩ := M_start W n
  have h := M_e hn h15 h16 h17 h18 h19 h23 (t.fr F0 rfl)
  rw [hr] at h
  obtain ⟨V2, e2, a1, a2, F2⟩ := h
  have o57 : d_M_rule_57 (on n) (si V2 89 19 (on j)) = some (-1 - on j, si V2 89 19 (on j)) := by
    have e9 : gi (si V2 89 19 (on j)) 89 19 = on j := by rw [gi_si, if_pos ⟨rfl, rfl⟩]
    rw [d_M_rule_57, fine_n e9 (by omega), bd_some, if_neg (fun h => h rfl), e9]
  rw [d_M_rule, m14 _ _ 89 11 (by decide), h11, e0, bd_some, if_neg (by rw [zero_on, on_le (by omega) (by omega)]; omega), e2, bd_some, a1, if_neg (by rw [on_le (by omega) (by omega)]; omega), fault_y a2, bd_some, o57]
  exact ⟨_, rfl, by rw [gi_si, if_neg (by decide), F2.gi 89 11 rfl]; exact h1, Fr.si (Fr.tr F0 F2 rfl) rfl⟩
theorem M_rule_y {W : ai_V} {T : Nat → Int32} {n j : Nat} {f : Ev → Int32} {l : List Int32} (hn : n ≤ 80) (h11 : gi W 89 11 = on n) (t : TX W T) (h0 : n ≠ 0) (hr : rR T n = .inr (j, f, l)) (hj : n ≤ j) : ∃ V', d_M_rule W = some (0, V') ∧ gi V' 89 22 = on n ∧ (∀ i, i < n → ga V' 99 i = sx (T i)) ∧ gi V' 89 11 = 0 ∧ Fr wM1 W V' := by
  obtain ⟨W0, e0, h15, h16, h17, h18, h19, h23, h1, F0⟩ := M_start W n
  have F0' : Fr wM1 W (si (si W0 89 11 0) 89 23 0) := Fr.tr Fr.rf F0 rfl
  have h := M_e hn h15 h16 h17 h18 h19 h23 (t.fr F0 rfl)
  have hg := rR_good (T := T) (n := n) (fun i => (t i).2)
  rw [hr] at h hg
  obtain ⟨V2, e2, a1, a2, F2⟩ := h
  have g3 := hg.2.2.1
  have F02 : Fr wM1 W V2 := Fr.tr F0' F2 rfl
  obtain ⟨V3, e3, a3, F3⟩ := M_71 (T := T) (n := n) (by omega) (t.fr F02 rfl)
  rw [d_M_rule, m14 _ _ 89 11 (by decide), h11, e0, bd_some, if_neg (by rw [zero_on, on_le (by omega) (by omega)]; omega), e2, bd_some, a1, if_pos (by rw [on_le (by omega) (by omega)]; omega), d_M_rule_57, fine_y a2, bd_some, if_pos (by decide), e3]
  refine ⟨_, rfl, by rw [gi_si, if_pos ⟨rfl, rfl⟩], fun i hi => by rw [ga_si]; exact a3 i hi, ?_, Fr.si (Fr.tr F02 F3 rfl) rfl⟩
  rw [gi_si, if_neg (by decide), F3.gi 89 11 rfl, F2.gi 89 11 rfl]; exact h1
theorem st_rule {N : Nat} {V : ai_V} (hI : Inv N V) (hN : N < 512) : Step N V d_X_rule d_M_rule := by
  obtain ⟨h, f, z, rm, h1, h2, h3, h4, h5, h6, h7, h8, h9, h10⟩ := hI
  obtain ⟨n, n80, t1, t2, tx⟩ := h1.t
  have hT : ∀ i, 0 ≤ (ga V 2 i).toInt ∧ (ga V 2 i).toInt ≤ 255 := fun i => (tx i).2
  -- a text that is refused
  have no : ∀ v V1, d_X_rule V = some (v, V1) → gi V1 1 1 = 0 → Fr wX0 V V1 → (∃ V2, d_M_rule V1 = some (v, V2) ∧ gi V2 89 11 = 0 ∧ Fr wM0 V1 V2) → Step N V d_X_rule d_M_rule := by
    rintro v V1 e1 g1 F1 ⟨V2, e2, g2, F2⟩
    have F : Fr ((10, 6) :: (10, 7) :: (1, 1) :: wM0.1, [14]) V V2 := Fr.tr (Fr.tr Fr.rf F1 rfl) F2 rfl
    exact ⟨v, V1, V2, e1, e2, h, f, z, rm, h1.clr (by rw [F2.gi 1 1 rfl]; exact g1) g2 (F.ga 2 rfl) (F.ga 96 rfl), h2.sm (Sm.of F rfl), h3.sm (Sm.of F rfl), h4.sm (Sm.of F rfl) (by omega), h5.sm (Sm.of F rfl), h6.sm (Sm.of F rfl) (by omega), h7.sm (Sm.of F rfl) (by omega), h8.sm (Sm.of F rfl), h9.sm (Sm.of F rfl), h10.fr2 F1 F2 rfl rfl⟩
  -- one that is taken
  have yes : ∀ g V1, d_X_rule V = some (0, V1) → gi V1 1 1 = 0 → Fr wX1 V V1 → CR V1 g → (∃ V2, d_M_rule V1 = some (0, V2) ∧ gi V2 89 11 = 0 ∧ Fr wM1 V1 V2 ∧ MR V2 g) → Step N V d_X_rule d_M_rule := by
    rintro g V1 e1 g1 F1 hC ⟨V2, e2, g2, F2, hM⟩
    have F : Fr ((10, 6) :: (10, 7) :: (1, 1) :: (10, 1) :: wM1.1, [14, 11, 99]) V V2 := Fr.tr (Fr.tr Fr.rf F1 rfl) F2 rfl
    exact ⟨0, V1, V2, e1, e2, h, g, z, rm, h1.clr (by rw [F2.gi 1 1 rfl]; exact g1) g2 (F.ga 2 rfl) (F.ga 96 rfl), h2.sm (Sm.of F rfl), ⟨hC.fr F2 rfl, hM⟩, h4.sm (Sm.of F rfl) (by omega), h5.sm (Sm.of F rfl), h6.sm (Sm.of F rfl) (by omega), h7.sm (Sm.of F rfl) (by omega), h8.sm (Sm.of F rfl), h9.sm (Sm.of F rfl), h10.fr2 F1 F2 rfl rfl⟩
  by_cases h0 : n = 0
  · subst h0
    obtain ⟨V1, e1, q1, q2, F1⟩ := X_rule_0 t1
    obtain ⟨V2, e2, r1, r2, F2⟩ := M_rule_0 (W := V1) (T := ga V 2) (by rw [F1.gi 89 11 rfl]; exact t2) (tx.fr F1 rfl)
    refine yes (fun t p w l n q y => t * (w + 1) / 4) V1 e1 q2 F1 ?_ ⟨V2, e2, r2, F2, Or.inl ⟨by rw [r1]; decide, fun _ _ _ _ _ _ _ => rfl⟩⟩
    intro V' e3 e4
    have e5 : d_Rule_reckoned_4 (19999 + 1) 0 0 V' = some (clp (ga V' 12 0 * (ga V' 12 2 + 1) / 4), V') := by
      rw [d_Rule_reckoned_4, e3, q1, if_pos (by decide), if_neg (fun h => h rfl), d_Rule_reckoned_196]; rfl
    exact ⟨V', e5⟩
  · cases hr : rR (ga V 2) n with
    | inl p =>
      obtain ⟨V1, e1, q1, F1⟩ := X_rule_f n80 t1 hT h0 hr
      obtain ⟨V2, e2, r1, F2⟩ := M_rule_f (W := V1) n80 (by rw [F1.gi 89 11 rfl]; exact t2) (tx.fr F1 rfl) h0 hr
      exact no _ V1 e1 q1 F1 ⟨V2, e2, r1, F2⟩
    | inr q =>
      obtain ⟨j, g, l⟩ := q
      by_cases hj : j < n
      · obtain ⟨V1, e1, q1, F1⟩ := X_rule_s n80 t1 hT h0 hr hj
        obtain ⟨V2, e2, r1, F2⟩ := M_rule_s (W := V1) n80 (by rw [F1.gi 89 11 rfl]; exact t2) (tx.fr F1 rfl) h0 hr hj
        exact no _ V1 e1 q1 F1 ⟨V2, e2, r1, F2⟩
      · have hg := rR_good (T := ga V 2) (n := n) hT
        rw [hr] at hg
        obtain ⟨V1, e1, q1, q2, q3, F1⟩ := X_rule_y n80 t1 hT h0 hr (by omega)
        obtain ⟨V2, e2, r1, r2, r3, F2⟩ := M_rule_y (W := V1) n80 (by rw [F1.gi 89 11 rfl]; exact t2) (tx.fr F1 rfl) h0 hr (by omega)
        exact yes _ V1 e1 q3 F1 (CR_new (Or.inr ⟨j, hg⟩) q1 q2) ⟨V2, e2, r3, F2, MR_new n80 h0 hT r1 (fun i hi _ => ⟨r2 i hi, hT i⟩) hr⟩
