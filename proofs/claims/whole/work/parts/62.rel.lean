/-! ===== what the class and the model hold alike ===== -/
/-- a house: how many, due, brakes; storeys, paces, weights, wants, how many wants -/
abbrev Hs : Type := Nat × Int32 × Int32 × (Nat → Int32) × (Nat → Int32) × (Nat → Int32) × (Nat → Int32) × (Nat → Int32)
def hm (h : Hs) : Nat := h.1
def hdu (h : Hs) : Int32 := h.2.1
def hbr (h : Hs) : Int32 := h.2.2.1
def hst (h : Hs) : Nat → Int32 := h.2.2.2.1
def hpc (h : Hs) : Nat → Int32 := h.2.2.2.2.1
def hwt (h : Hs) : Nat → Int32 := h.2.2.2.2.2.1
def hwn (h : Hs) : Nat → Int32 := h.2.2.2.2.2.2.1
def hwd (h : Hs) : Nat → Int32 := h.2.2.2.2.2.2.2
/-- what must be of a house -/
def HO (h : Hs) : Prop := hm h ≤ 6 ∧ (0 ≤ (hdu h).toInt ∧ (hdu h).toInt ≤ 9) ∧
  ∀ i, i < hm h → (0 ≤ (hst h i).toInt ∧ (hst h i).toInt ≤ 5) ∧ (1 ≤ (hpc h i).toInt ∧ (hpc h i).toInt ≤ 9) ∧ (1 ≤ (hwt h i).toInt ∧ (hwt h i).toInt ≤ 9) ∧ (1 ≤ (hwd h i).toInt ∧ (hwd h i).toInt ≤ 12) ∧ ∀ q, q < 12 → (0 ≤ (hwn h (12 * i + q)).toInt ∧ (hwn h (12 * i + q)).toInt ≤ 9)
def CH (V : ai_V) (h : Hs) : Prop := gi V 3 0 = on (hm h) ∧ gi V 3 1 = hdu h ∧ gi V 3 2 = hbr h ∧ ga V 4 = hst h ∧ ga V 5 = hpc h ∧ ga V 6 = hwt h ∧ ga V 7 = hwn h ∧ ga V 8 = hwd h
def MH (V : ai_V) (h : Hs) : Prop := gi V 89 1 = on (hm h) ∧ gi V 89 9 = hdu h ∧ gi V 89 7 = hbr h ∧ ga V 91 = hst h ∧ ga V 92 = hpc h ∧ ga V 93 = hwt h ∧ ga V 94 = hwn h ∧ ga V 95 = hwd h
/-- lodgers by storeys g -/
def ordL (g : Nat → Int32) (m : Nat) : List Nat := (List.range 6).flatMap fun y => (List.range m).filter fun i => decide (g i = on y)
/-- an order that stands in an array -/
def CO (V : ai_V) (o : Nat) (l : List Nat) : Prop := ∀ i, i < l.length → ga V o i = on (l.getD i 0)
/-- the rule: pails by turns, pace, weight, level, how many, quarter, storey -/
abbrev Rf : Type := Int32 → Int32 → Int32 → Int32 → Int32 → Int32 → Int32 → Int32
def clp (x : Int32) : Int32 := ai_max 0 (ai_min 99 x)
def CR (V : ai_V) (f : Rf) : Prop := ∀ V', gi V' 10 1 = gi V 10 1 → ga V' 11 = ga V 11 → ∃ V'', d_Rule_reckoned V' = some (clp (f (ga V' 12 0) (ga V' 12 1) (ga V' 12 2) (ga V' 12 3) (ga V' 12 4) (ga V' 12 5) (ga V' 12 6)), V'')
def MRa (V' : ai_V) : Prop := gr V' 89 15 = some 99 ∧ gi V' 89 16 = gi V' 89 22 ∧ gi V' 89 17 = 40 ∧ gi V' 89 18 = 0 ∧ gi V' 89 19 = -1 ∧ gi V' 89 23 = 1 ∧ ai_in (gi V' 89 24) 6
def MR (V : ai_V) (f : Rf) : Prop := (gi V 89 22 ≤ 0 ∧ ∀ t p w l n q y, clp (f t p w l n q y) = clp (t * (w + 1) / 4)) ∨
  (¬ gi V 89 22 ≤ 0 ∧ ∀ V', gi V' 89 22 = gi V 89 22 → ga V' 99 = ga V 99 → MRa V' → ∃ v V'', d_M_held 0 V' = some (v, V'') ∧
    clp v = clp (f (gi V' 89 25) (ga V' 92 (gi V' 89 24).toNatClampNeg) (ga V' 93 (gi V' 89 24).toNatClampNeg) (gi V' 89 26) (gi V' 89 27) (gi V' 89 28) (ga V' 91 (gi V' 89 24).toNatClampNeg)))
/-- a state: now, level, debts, dry -/
abbrev Ss : Type := Int32 × Int32 × (Nat → Int32) × (Nat → Int32)
def cS (z : Ss) (V : ai_V) (s : Nat) : Prop := gi V s 0 = z.1 ∧ gi V s 1 = z.2.1 ∧ ∀ k, k < 6 → ga V (s + 1) k = z.2.2.1 k ∧ ga V (s + 2) k = z.2.2.2 k
def mS (z : Ss) (V : ai_V) (a b : Nat) : Prop := ga V a (b + 13) = z.1 ∧ ga V a (b + 12) = z.2.1 ∧ ∀ k, k < 6 → ga V a (b + k) = z.2.2.1 k ∧ ga V a (b + (6 + k)) = z.2.2.2 k
/-- what must be of a state behind at most N calls, in a house of m -/
def SO (N m : Nat) (z : Ss) : Prop := (0 ≤ z.1.toInt ∧ z.1.toInt ≤ 48 * N) ∧ (0 ≤ z.2.1.toInt ∧ z.2.1.toInt ≤ 999) ∧ ∀ k, k < 6 → (-(63 * z.1.toInt) ≤ (z.2.2.1 k).toInt ∧ (z.2.2.1 k).toInt ≤ 63 * z.1.toInt) ∧ (m ≤ k → z.2.2.1 k = 0 ∧ z.2.2.2 k = 0)
def sx (c : Int32) : Int32 := c.toInt8.toInt32
def IT (V : ai_V) : Prop := ∃ n, n ≤ 80 ∧ gi V 1 1 = on n ∧ gi V 89 11 = on n ∧ ∀ i, ga V 96 i = sx (ga V 2 i) ∧ 0 ≤ (ga V 2 i).toInt ∧ (ga V 2 i).toInt ≤ 255
def IH (V : ai_V) (h : Hs) : Prop := HO h ∧ CH V h ∧ MH V h ∧ CO V 9 (ordL (hst h) (hm h)) ∧ (∀ i, 12 * hm h ≤ i → hwn h i = 0) ∧ ∃ b, b < 64 ∧ hbr h = on b
def IR (V : ai_V) (f : Rf) : Prop := CR V f ∧ MR V f
def IS (N : Nat) (V : ai_V) (h : Hs) (z : Ss) (rm : Int32) : Prop := SO N (hm h) z ∧ cS z V 16 ∧ mS z V 90 0 ∧ gi V 16 2 = rm ∧ gi V 89 8 = rm ∧ 1 ≤ rm.toInt ∧ rm.toInt ≤ 999 ∧ z.2.1.toInt ≤ rm.toInt
def IW (V : ai_V) : Prop := ∃ n, n ≤ 12 ∧ gi V 22 1 = on n ∧ gi V 89 13 = on n ∧ ∀ i, i < n → gl V 23 i = gl V 97 i
def IP (N : Nat) (V : ai_V) (h : Hs) : Prop := ∃ p x, p ≤ 12 ∧ x < 12 ∧ gi V 24 1 = on p ∧ gi V 24 2 = on x ∧ gi V 89 35 = on p ∧ (∀ j, j < 12 → gi V (26 + 3 * j) 2 = 999) ∧
  ∀ e, e < p → ∃ z, SO N (hm h) z ∧ cS z V (26 + 3 * ((x + 12 - p + e) % 12)) ∧ mS z V 100 (14 * e)
def IK (N : Nat) (V : ai_V) (h : Hs) : Prop := ∃ c, c ≤ hm h ∧ gi V 89 58 = on c ∧ ∀ i, i < 2 → gi V (83 + 3 * i) 2 = 999 ∧ ((ga V 63 i = -1 ∧ ga V 116 i = 0) ∨
  (ga V 116 i = 1 ∧ ∃ k d, ga V 63 i = on k ∧ ga V 117 i = on d ∧ ((k = hm h ∧ d = c ∧ ∃ z, SO N (hm h) z ∧ cS z V (83 + 3 * i) ∧ mS z V 115 (14 * i)) ∨ (k < hm h ∧ d < c))))
def IV (V : ai_V) : Prop := ∃ k, (k = 0 ∨ 2 ≤ k) ∧ k ≤ 4 ∧ gi V 72 0 = on k ∧ gi V 89 46 = on k ∧ ∀ i j, i < k → j < k → ga V 75 (i * k + j) = ga V 107 (4 * i + j) ∧ 0 ≤ (ga V 107 (4 * i + j)).toInt ∧ (ga V 107 (4 * i + j)).toInt ≤ 9
def IG (V : ai_V) : Prop := ∃ p, p ≤ 12 ∧ gi V 78 1 = on p ∧ gi V 89 55 = on p ∧ ∀ i, i < p → ga V 80 i = ga V 114 (2 * i) ∧ ga V 81 i = ga V 114 (2 * i + 1)
def IX (V : ai_V) : Prop := gi V 89 30 = -1 ∧ gi V 89 31 = -1 ∧ (gr V 64 2 = some 68 ∨ gr V 64 2 = some 119) ∧ (gr V 89 15 = none ∨ gr V 89 15 = some 96 ∨ gr V 89 15 = some 99)
/-- what holds between two calls, N calls behind the making -/
def Inv (N : Nat) (V : ai_V) : Prop := ∃ (h : Hs) (f : Rf) (z : Ss) (rm : Int32), IT V ∧ IH V h ∧ IR V f ∧ IS N V h z rm ∧ IW V ∧ IP N V h ∧ IK N V h ∧ IV V ∧ IG V ∧ IX V
/-! frames of the parts -/
def fw_df : List (Nat × Nat) → List (Nat × Nat) → Bool
  | [], _ => true
  | q :: l, w => !(fw_f q.1 q.2 w) && fw_df l w
def fw_da : List Nat → List Nat → Bool
  | [], _ => true
  | q :: l, w => !(fw_a q w) && fw_da l w
/-- nothing of c may be written -/
def fw_dis (c w : Fw) : Bool := fw_df c.1 w.1 && fw_da c.2 w.2
theorem fw_df_mem : ∀ {l w : List (Nat × Nat)} {o k : Nat}, fw_df l w = true → fw_f o k l = true → fw_f o k w = false := by
  intro l
  induction l with
  | nil => intro w o k _ h; cases h
  | cons q l ih =>
    intro w o k h hf
    rw [fw_df, Bool.and_eq_true] at h
    rw [fw_f] at hf
    cases hq : (Nat.beq q.1 o && Nat.beq q.2 k) with
    | false => rw [hq] at hf; exact ih h.2 hf
    | true =>
      rw [Bool.and_eq_true] at hq
      have e1 := Nat.eq_of_beq_eq_true hq.1
      have e2 := Nat.eq_of_beq_eq_true hq.2
      rw [e1, e2] at h
      simpa using h.1
theorem fw_da_mem : ∀ {l w : List Nat} {o : Nat}, fw_da l w = true → fw_a o l = true → fw_a o w = false := by
  intro l
  induction l with
  | nil => intro w o _ h; cases h
  | cons q l ih =>
    intro w o h hf
    rw [fw_da, Bool.and_eq_true] at h
    rw [fw_a] at hf
    cases hq : Nat.beq q o with
    | false => rw [hq] at hf; exact ih h.2 hf
    | true =>
      have e1 := Nat.eq_of_beq_eq_true hq
      rw [e1] at h
      simpa using h.1
/-- the cells of c are the same -/
def Sm (c : Fw) (V V' : ai_V) : Prop := (∀ o k, fw_f o k c.1 = true → gi V' o k = gi V o k ∧ gr V' o k = gr V o k) ∧ ∀ o, fw_a o c.2 = true → ga V' o = ga V o ∧ gl V' o = gl V o
theorem Sm.of {c w : Fw} {V V' : ai_V} (h : Fr w V V') (hd : fw_dis c w = true) : Sm c V V' := by
  rw [fw_dis, Bool.and_eq_true] at hd
  exact ⟨fun o k hf => ⟨(h.1 o k (fw_df_mem hd.1 hf)).1, (h.1 o k (fw_df_mem hd.1 hf)).2.2⟩, fun o hf => h.2.1 o (fw_da_mem hd.2 hf)⟩
theorem Sm.i {c : Fw} {V V' : ai_V} (h : Sm c V V') (o k : Nat) (hf : fw_f o k c.1 = true) : gi V' o k = gi V o k := (h.1 o k hf).1
theorem Sm.r {c : Fw} {V V' : ai_V} (h : Sm c V V') (o k : Nat) (hf : fw_f o k c.1 = true) : gr V' o k = gr V o k := (h.1 o k hf).2
theorem Sm.a {c : Fw} {V V' : ai_V} (h : Sm c V V') (o : Nat) (hf : fw_a o c.2 = true) : ga V' o = ga V o := (h.2 o hf).1
theorem Sm.l {c : Fw} {V V' : ai_V} (h : Sm c V V') (o : Nat) (hf : fw_a o c.2 = true) : gl V' o = gl V o := (h.2 o hf).2
def cIT : Fw := ([(1, 1), (89, 11)], [2, 96])
def cCH : Fw := ([(3, 0), (3, 1), (3, 2)], [4, 5, 6, 7, 8])
def cMH : Fw := ([(89, 1), (89, 9), (89, 7)], [91, 92, 93, 94, 95])
def cIH : Fw := ([(3, 0), (3, 1), (3, 2), (89, 1), (89, 9), (89, 7)], [4, 5, 6, 7, 8, 9, 91, 92, 93, 94, 95])
def cCR : Fw := ([(10, 1)], [11])
def cMR : Fw := ([(89, 22)], [99])
def cIR : Fw := ([(10, 1), (89, 22)], [11, 99])
def cIS : Fw := ([(16, 0), (16, 1), (16, 2), (89, 8)], [17, 18, 90])
def cIW : Fw := ([(22, 1), (89, 13)], [23, 97])
def cIP : Fw := ([(24, 1), (24, 2), (89, 35)] ++ (List.range 12).flatMap (fun j => [(26 + 3 * j, 0), (26 + 3 * j, 1), (26 + 3 * j, 2)]), 100 :: (List.range 12).flatMap (fun j => [27 + 3 * j, 28 + 3 * j]))
def cIK : Fw := ([(89, 58), (83, 0), (83, 1), (83, 2), (86, 0), (86, 1), (86, 2)], [63, 116, 117, 115, 84, 85, 87, 88])
def cIV : Fw := ([(72, 0), (89, 46)], [75, 107])
def cIG : Fw := ([(78, 1), (89, 55)], [80, 81, 114])
def cIX : Fw := ([(89, 30), (89, 31), (64, 2), (89, 15)], [])
theorem IT.sm {V V' : ai_V} (h : IT V) (s : Sm cIT V V') : IT V' := by
  obtain ⟨n, h1, h2, h3, h4⟩ := h
  refine ⟨n, h1, by rw [s.i 1 1 rfl]; exact h2, by rw [s.i 89 11 rfl]; exact h3, ?_⟩
  rw [s.a 96 rfl, s.a 2 rfl]; exact h4
theorem CH.sm {V V' : ai_V} {h : Hs} (hh : CH V h) (s : Sm cCH V V') : CH V' h := by
  unfold CH at *
  rw [s.i 3 0 rfl, s.i 3 1 rfl, s.i 3 2 rfl, s.a 4 rfl, s.a 5 rfl, s.a 6 rfl, s.a 7 rfl, s.a 8 rfl]; exact hh
theorem MH.sm {V V' : ai_V} {h : Hs} (hh : MH V h) (s : Sm cMH V V') : MH V' h := by
  unfold MH at *
  rw [s.i 89 1 rfl, s.i 89 9 rfl, s.i 89 7 rfl, s.a 91 rfl, s.a 92 rfl, s.a 93 rfl, s.a 94 rfl, s.a 95 rfl]; exact hh
theorem CH.fr {V V' : ai_V} {h : Hs} {w : Fw} (hh : CH V h) (s : Fr w V V') (hd : fw_dis cCH w = true) : CH V' h := hh.sm (Sm.of s hd)
theorem MH.fr {V V' : ai_V} {h : Hs} {w : Fw} (hh : MH V h) (s : Fr w V V') (hd : fw_dis cMH w = true) : MH V' h := hh.sm (Sm.of s hd)
theorem CO.fr {V V' : ai_V} {o : Nat} {l : List Nat} {w : Fw} (hh : CO V o l) (s : Fr w V V') (hd : fw_a o w.2 = false) : CO V' o l := by
  unfold CO at *
  rw [(s.2.1 o hd).1]; exact hh
theorem CR.fr {V V' : ai_V} {f : Rf} {w : Fw} (hh : CR V f) (s : Fr w V V') (hd : fw_dis cCR w = true) : CR V' f := by
  have t := Sm.of s hd
  unfold CR at *
  rw [t.i 10 1 rfl, t.a 11 rfl]; exact hh
theorem MR.fr {V V' : ai_V} {f : Rf} {w : Fw} (hh : MR V f) (s : Fr w V V') (hd : fw_dis cMR w = true) : MR V' f := by
  have t := Sm.of s hd
  unfold MR at *
  rw [t.i 89 22 rfl, t.a 99 rfl]; exact hh
theorem IH.sm {V V' : ai_V} {h : Hs} (hh : IH V h) (s : Sm cIH V V') : IH V' h := by
  obtain ⟨h1, h2, h3, h4⟩ := hh
  refine ⟨h1, ?_, ?_, ?_⟩
  · unfold CH at *
    rw [s.i 3 0 rfl, s.i 3 1 rfl, s.i 3 2 rfl, s.a 4 rfl, s.a 5 rfl, s.a 6 rfl, s.a 7 rfl, s.a 8 rfl]; exact h2
  · unfold MH at *
    rw [s.i 89 1 rfl, s.i 89 9 rfl, s.i 89 7 rfl, s.a 91 rfl, s.a 92 rfl, s.a 93 rfl, s.a 94 rfl, s.a 95 rfl]; exact h3
  · unfold CO at *
    rw [s.a 9 rfl]; exact h4
theorem IR.sm {V V' : ai_V} {f : Rf} (hh : IR V f) (s : Sm cIR V V') : IR V' f := by
  unfold IR CR MR at *
  rw [s.i 10 1 rfl, s.a 11 rfl, s.i 89 22 rfl, s.a 99 rfl]; exact hh
theorem SO.mono {N N' m : Nat} {z : Ss} (h : SO N m z) (hN : N ≤ N') : SO N' m z := by
  obtain ⟨⟨h1, h2⟩, h3⟩ := h
  exact ⟨⟨h1, by omega⟩, h3⟩
theorem IS.sm {N N' : Nat} {V V' : ai_V} {h : Hs} {z : Ss} {rm : Int32} (hh : IS N V h z rm) (s : Sm cIS V V') (hN : N ≤ N') : IS N' V' h z rm := by
  obtain ⟨h1, h2, h3, h4⟩ := hh
  refine ⟨h1.mono hN, ?_, ?_, ?_⟩
  · unfold cS at *
    rw [s.i 16 0 rfl, s.i 16 1 rfl, s.a 17 rfl, s.a 18 rfl]; exact h2
  · unfold mS at *
    rw [s.a 90 rfl]; exact h3
  · rw [s.i 16 2 rfl, s.i 89 8 rfl]; exact h4
theorem IW.sm {V V' : ai_V} (hh : IW V) (s : Sm cIW V V') : IW V' := by
  unfold IW at *
  rw [s.i 22 1 rfl, s.i 89 13 rfl, s.l 23 rfl, s.l 97 rfl]; exact hh
theorem cIP_f : ∀ j, j < 12 → fw_f (26 + 3 * j) 0 cIP.1 = true ∧ fw_f (26 + 3 * j) 1 cIP.1 = true ∧ fw_f (26 + 3 * j) 2 cIP.1 = true ∧ fw_a (26 + 3 * j + 1) cIP.2 = true ∧ fw_a (26 + 3 * j + 2) cIP.2 = true := by decide +kernel
theorem IP.sm {N N' : Nat} {V V' : ai_V} {h : Hs} (hh : IP N V h) (s : Sm cIP V V') (hN : N ≤ N') : IP N' V' h := by
  obtain ⟨p, x, h1, h2, h3, h4, h5, h6, h7⟩ := hh
  refine ⟨p, x, h1, h2, by rw [s.i 24 1 rfl]; exact h3, by rw [s.i 24 2 rfl]; exact h4, by rw [s.i 89 35 rfl]; exact h5, ?_, ?_⟩
  · intro j hj
    rw [s.i _ _ (cIP_f j hj).2.2.1]; exact h6 j hj
  · intro e he
    obtain ⟨z, a1, a2, a3⟩ := h7 e he
    obtain ⟨b1, b2, b3, b4, b5⟩ := cIP_f ((x + 12 - p + e) % 12) (Nat.mod_lt _ (by decide))
    refine ⟨z, a1.mono hN, ?_, ?_⟩
    · unfold cS at *
      rw [s.i _ _ b1, s.i _ _ b2, s.a _ b4, s.a _ b5]; exact a2
    · unfold mS at *
      rw [s.a 100 rfl]; exact a3
theorem cIK_f : ∀ i, i < 2 → fw_f (83 + 3 * i) 0 cIK.1 = true ∧ fw_f (83 + 3 * i) 1 cIK.1 = true ∧ fw_f (83 + 3 * i) 2 cIK.1 = true ∧ fw_a (83 + 3 * i + 1) cIK.2 = true ∧ fw_a (83 + 3 * i + 2) cIK.2 = true := by decide +kernel
theorem IK.sm {N N' : Nat} {V V' : ai_V} {h : Hs} (hh : IK N V h) (s : Sm cIK V V') (hN : N ≤ N') : IK N' V' h := by
  obtain ⟨c, h1, h2, h3⟩ := hh
  refine ⟨c, h1, by rw [s.i 89 58 rfl]; exact h2, ?_⟩
  intro i hi
  obtain ⟨b1, b2, b3, b4, b5⟩ := cIK_f i hi
  obtain ⟨a0, a⟩ := h3 i hi
  rw [s.i _ _ b3, s.a 63 rfl, s.a 116 rfl, s.a 117 rfl]
  refine ⟨a0, ?_⟩
  rcases a with a | ⟨a, k, d, e1, e2, a3⟩
  · exact Or.inl a
  · refine Or.inr ⟨a, k, d, e1, e2, ?_⟩
    rcases a3 with ⟨c1, c2, z, c3, c4, c5⟩ | a3
    · refine Or.inl ⟨c1, c2, z, c3.mono hN, ?_, ?_⟩
      · unfold cS at *
        rw [s.i _ _ b1, s.i _ _ b2, s.a _ b4, s.a _ b5]; exact c4
      · unfold mS at *
        rw [s.a 115 rfl]; exact c5
    · exact Or.inr a3
theorem IV.sm {V V' : ai_V} (hh : IV V) (s : Sm cIV V V') : IV V' := by
  unfold IV at *
  rw [s.i 72 0 rfl, s.i 89 46 rfl, s.a 75 rfl, s.a 107 rfl]; exact hh
theorem IG.sm {V V' : ai_V} (hh : IG V) (s : Sm cIG V V') : IG V' := by
  unfold IG at *
  rw [s.i 78 1 rfl, s.i 89 55 rfl, s.a 80 rfl, s.a 81 rfl, s.a 114 rfl]; exact hh
theorem IX.sm {V V' : ai_V} (hh : IX V) (s : Sm cIX V V') : IX V' := by
  unfold IX at *
  rw [s.i 89 30 rfl, s.i 89 31 rfl, s.r 64 2 rfl, s.r 89 15 rfl]; exact hh
/-- what a question may write -/
def wq : Fw := ([(10, 6), (10, 7), (15, 2), (15, 3), (15, 4), (15, 5), (19, 0), (19, 1), (19, 2), (22, 1), (64, 2), (64, 3), (64, 4), (64, 5), (64, 6), (65, 0), (65, 1), (65, 2), (69, 2), (72, 1), (72, 7), (78, 3),
  (89, 13), (89, 14), (89, 15), (89, 16), (89, 17), (89, 18), (89, 19), (89, 23), (89, 24), (89, 25), (89, 26), (89, 27), (89, 28), (89, 29), (89, 30), (89, 31), (89, 32), (89, 33), (89, 38), (89, 43), (89, 49), (89, 52), (89, 56), (89, 57)],
  [12, 13, 14, 20, 21, 23, 66, 67, 70, 71, 73, 74, 76, 77, 79, 82, 119, 97, 98, 101, 102, 103, 104, 105, 106, 108, 109, 110, 111, 112, 113])
theorem Inv.q {N : Nat} {V V2 : ai_V} (hI : Inv N V) (hF : Fr wq V V2) (hW : IW V2) (hX : IX V2) : Inv (N + 1) V2 := by
  obtain ⟨h, f, z, rm, h1, h2, h3, h4, -, h6, h7, h8, h9, -⟩ := hI
  exact ⟨h, f, z, rm, h1.sm (Sm.of hF rfl), h2.sm (Sm.of hF rfl), h3.sm (Sm.of hF rfl), h4.sm (Sm.of hF rfl) (by omega), hW, h6.sm (Sm.of hF rfl) (by omega), h7.sm (Sm.of hF rfl) (by omega), h8.sm (Sm.of hF rfl), h9.sm (Sm.of hF rfl), hX⟩
