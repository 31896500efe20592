/-! ===== rows, and how a question ends ===== -/
def cRow (V : ai_V) (r : List Int64) : Prop := gi V 22 1 = on r.length ∧ ∀ i, i < r.length → gl V 23 i = r.getD i 0
def mRow (V : ai_V) (r : List Int64) : Prop := gi V 89 13 = on r.length ∧ ∀ i, i < r.length → gl V 97 i = r.getD i 0
theorem cRow.fr {V V' : ai_V} {r : List Int64} {w : Fw} (h : cRow V r) (s : Fr w V V') (hd : fw_dis ([(22, 1)], [23]) w = true) : cRow V' r := by
  have t := Sm.of s hd
  unfold cRow at *
  rw [t.i 22 1 rfl, t.l 23 rfl]; exact h
theorem mRow.fr {V V' : ai_V} {r : List Int64} {w : Fw} (h : mRow V r) (s : Fr w V V') (hd : fw_dis ([(89, 13)], [97]) w = true) : mRow V' r := by
  have t := Sm.of s hd
  unfold mRow at *
  rw [t.i 89 13 rfl, t.l 97 rfl]; exact h
theorem getD_snoc (r : List Int64) (x : Int64) (i : Nat) (hi : i < r.length + 1) : (r ++ [x]).getD i 0 = if i = r.length then x else r.getD i 0 := by
  by_cases e : i = r.length
  · subst e; simp [List.getD]
  · rw [if_neg e]
    have : i < r.length := by omega
    simp [List.getD, List.getElem?_append_left this]
theorem row_clear (V : ai_V) : d_Row_clear V = some (si V 22 1 0) ∧ cRow (si V 22 1 0) [] := by
  refine ⟨rfl, ?_, fun i hi => absurd hi (by simp)⟩
  rw [gi_si, if_pos ⟨rfl, rfl⟩]; rfl
theorem row_add {V : ai_V} {r : List Int64} (h : cRow V r) (hr : r.length < 12) (x : Int64) : ∃ V', d_Row_add x V = some V' ∧ cRow V' (r ++ [x]) ∧ Fr ([(22, 1)], [23]) V V' := by
  obtain ⟨h1, h2⟩ := h
  rw [d_Row_add, h1, show Int32.ofNat 12 = on 12 from rfl, if_neg (by rw [on_le (by omega) (by omega)]; omega), if_pos (by rw [on_in (by omega)]; omega), on_nn (by omega), gi_sl, h1, on_s]
  refine ⟨_, rfl, ⟨?_, ?_⟩, Fr.si (Fr.sl Fr.rf rfl) rfl⟩
  · rw [gi_si, if_pos ⟨rfl, rfl⟩]; simp
  · intro i hi
    rw [List.length_append, List.length_singleton] at hi
    rw [gl_si, gl_sl, getD_snoc _ _ _ hi]
    by_cases e : i = r.length
    · rw [if_pos ⟨rfl, e⟩, if_pos e]
    · rw [if_neg (fun hc => e hc.2), if_neg e]; exact h2 i (by omega)
theorem m_tell {V : ai_V} {r : List Int64} (h : mRow V r) (hr : r.length < 16) (x : Int64) : ∃ V', d_M_tell x V = some V' ∧ mRow V' (r ++ [x]) ∧ Fr ([(89, 13)], [97]) V V' := by
  obtain ⟨h1, h2⟩ := h
  rw [d_M_tell, h1, if_pos (by rw [on_in (by omega)]; omega), on_nn (by omega), gi_sl, h1, on_s]
  refine ⟨_, rfl, ⟨?_, ?_⟩, Fr.si (Fr.sl Fr.rf rfl) rfl⟩
  · rw [gi_si, if_pos ⟨rfl, rfl⟩]; simp
  · intro i hi
    rw [List.length_append, List.length_singleton] at hi
    rw [gl_si, gl_sl, getD_snoc _ _ _ hi]
    by_cases e : i = r.length
    · rw [if_pos ⟨rfl, e⟩, if_pos e]
    · rw [if_neg (fun hc => e hc.2), if_neg e]; exact h2 i (by omega)
theorem m_row0 (V : ai_V) : mRow (si V 89 13 0) [] := by
  refine ⟨?_, fun i hi => absurd hi (by simp)⟩
  rw [gi_si, if_pos ⟨rfl, rfl⟩]; rfl
theorem tell1 (x : Int64) (V : ai_V) : ∃ V', d_Row_tellOne x V = some V' ∧ cRow V' [x] ∧ Fr ([(22, 1)], [23]) V V' := by
  obtain ⟨a, b⟩ := row_clear V
  obtain ⟨V1, e1, c1, F1⟩ := row_add b (by simp) x
  refine ⟨V1, ?_, c1, Fr.tr (Fr.si Fr.rf rfl) F1 rfl⟩
  rw [d_Row_tellOne, a, bd_some, e1]; rfl
theorem tell2 (x y : Int64) (V : ai_V) : ∃ V', d_Row_tellTwo x y V = some V' ∧ cRow V' [x, y] ∧ Fr ([(22, 1)], [23]) V V' := by
  obtain ⟨V1, e1, c1, F1⟩ := tell1 x V
  obtain ⟨V2, e2, c2, F2⟩ := row_add c1 (by simp) y
  refine ⟨V2, ?_, c2, Fr.tr F1 F2 rfl⟩
  rw [d_Row_tellTwo, e1, bd_some, e2]; rfl
theorem tell3 (x y z : Int64) (V : ai_V) : ∃ V', d_Row_tellThree x y z V = some V' ∧ cRow V' [x, y, z] ∧ Fr ([(22, 1)], [23]) V V' := by
  obtain ⟨V1, e1, c1, F1⟩ := tell2 x y V
  obtain ⟨V2, e2, c2, F2⟩ := row_add c1 (by simp) z
  refine ⟨V2, ?_, c2, Fr.tr F1 F2 rfl⟩
  rw [d_Row_tellThree, e1, bd_some, e2]; rfl
/-- the row told anew, or left -/
def cRo (V V1 : ai_V) (o : Option (List Int64)) : Prop := match o with
  | some r => cRow V1 r
  | none => gi V1 22 1 = gi V 22 1 ∧ gl V1 23 = gl V 23
def mRo (V V1 : ai_V) (o : Option (List Int64)) : Prop := match o with
  | some r => mRow V1 r
  | none => gi V1 89 13 = gi V 89 13 ∧ gl V1 97 = gl V 97
theorem cRo.no {V V1 : ai_V} {w : Fw} (s : Fr w V V1) (hd : fw_dis ([(22, 1)], [23]) w = true) : cRo V V1 none := by
  have t := Sm.of s hd
  exact ⟨t.i 22 1 rfl, t.l 23 rfl⟩
theorem mRo.no {V V1 : ai_V} {w : Fw} (s : Fr w V V1) (hd : fw_dis ([(89, 13)], [97]) w = true) : mRo V V1 none := by
  have t := Sm.of s hd
  exact ⟨t.i 89 13 rfl, t.l 97 rfl⟩
/-- one call on both -/
def Step (N : Nat) (V : ai_V) (dX dM : ai_V → Option (Int32 × ai_V)) : Prop := ∃ v V1 V2, dX V = some (v, V1) ∧ dM V1 = some (v, V2) ∧ Inv (N + 1) V2
theorem IW.ro {V V1 V2 : ai_V} {w1 w2 : Fw} (hW : IW V) (F1 : Fr w1 V V1) (F2 : Fr w2 V1 V2) (d1 : fw_dis ([(89, 13)], [97]) w1 = true) (d2 : fw_dis ([(22, 1)], [23]) w2 = true) {o : Option (List Int64)} (ho : ∀ r, o = some r → r.length ≤ 12) (c : cRo V V1 o) (m : mRo V1 V2 o) : IW V2 := by
  have t1 := Sm.of F1 d1
  have t2 := Sm.of F2 d2
  cases o with
  | none =>
    obtain ⟨n, h1, h2, h3, h4⟩ := hW
    refine ⟨n, h1, ?_, ?_, fun i hi => ?_⟩
    · rw [t2.i 22 1 rfl, c.1, h2]
    · rw [m.1, t1.i 89 13 rfl, h3]
    · rw [t2.l 23 rfl, c.2, m.2, t1.l 97 rfl]; exact h4 i hi
  | some r =>
    refine ⟨r.length, ho r rfl, ?_, m.1, fun i hi => ?_⟩
    · rw [t2.i 22 1 rfl]; exact c.1
    · rw [t2.l 23 rfl, c.2 i hi, m.2 i hi]
theorem IX.fr2 {V V1 V2 : ai_V} {w1 w2 : Fw} (hX : IX V) (F1 : Fr w1 V V1) (F2 : Fr w2 V1 V2) (d1 : fw_dis cIX w1 = true) (d2 : fw_dis ([(89, 30), (89, 31), (64, 2)], []) w2 = true) : IX V2 := by
  have t1 := Sm.of F1 d1
  have t2 := Sm.of F2 d2
  have h15 := F2.2.2
  unfold R15 at h15
  obtain ⟨x1, x2, x3, x4⟩ := hX
  refine ⟨?_, ?_, ?_, ?_⟩
  · rw [t2.i 89 30 rfl, t1.i 89 30 rfl, x1]
  · rw [t2.i 89 31 rfl, t1.i 89 31 rfl, x2]
  · rw [t2.r 64 2 rfl, t1.r 64 2 rfl]; exact x3
  · rcases h15 with h | h | h
    · rw [h, t1.r 89 15 rfl]; exact x4
    · exact Or.inr (Or.inl h)
    · exact Or.inr (Or.inr h)
/-- a question's end -/
theorem Inv.qq {N : Nat} {V V1 V2 : ai_V} {w1 w2 : Fw} (hI : Inv N V) (F1 : Fr w1 V V1) (F2 : Fr w2 V1 V2) (s1 : fw_sub w1 wq = true) (s2 : fw_sub w2 wq = true) (d1 : fw_dis ([(89, 13)], [97]) w1 = true) (d2 : fw_dis ([(22, 1)], [23]) w2 = true) {o : Option (List Int64)} (ho : ∀ r, o = some r → r.length ≤ 12) (c : cRo V V1 o) (m : mRo V1 V2 o) (hX : IX V2) : Inv (N + 1) V2 := by
  obtain ⟨h, f, z, rm, h1, h2, h3, h4, h5, h6⟩ := hI
  have hW : IW V := h5
  have hW2 := hW.ro F1 F2 d1 d2 ho c m
  exact Inv.q ⟨h, f, z, rm, h1, h2, h3, h4, h5, h6⟩ (Fr.tr (Fr.tr Fr.rf F1 s1) F2 s2) hW2 hX
theorem Inv.x {N : Nat} {V : ai_V} (hI : Inv N V) : IX V := by
  obtain ⟨h, f, z, rm, -, -, -, -, -, -, -, -, -, hX⟩ := hI
  exact hX
/-- a refused call -/
theorem Inv.no {N : Nat} {V : ai_V} (hI : Inv N V) (x : Int32) : Inv (N + 1) (si V 89 14 x) := by
  have F : Fr ([(89, 14)], []) V (si V 89 14 x) := Fr.si Fr.rf rfl
  exact hI.qq (w1 := ([], [])) Fr.rf F rfl rfl rfl rfl (o := none) (fun r h => by cases h) ⟨rfl, rfl⟩ ⟨rfl, rfl⟩ (hI.x.fr2 (w1 := ([], [])) Fr.rf F rfl rfl)
/-- a pure loop that may end early -/
def foe {α ρ : Type} (g : Nat → α → α) (c : Nat → α → Option ρ) : Nat → Nat → α → α ⊕ ρ
  | 0, _, a => .inl a
  | k + 1, i, a => match c i a with
    | some r => .inr r
    | none => foe g c k (i + 1) (g i a)
theorem loop_g {α ρ β : Type} (L : Nat → α → Int32 → ai_V → Option β) (g : Nat → α → α) (c : Nat → α → Option ρ) (P : Nat → α → ai_V → Prop) (Q : α ⊕ ρ → β → Prop) (m : Nat)
    (hs : ∀ n a i V, i < m → P i a V → (c i a = none → ∃ V', L (n + 1) a (on i) V = L n (g i a) (on (i + 1)) V' ∧ P (i + 1) (g i a) V') ∧ (∀ r, c i a = some r → ∃ b, L (n + 1) a (on i) V = some b ∧ Q (.inr r) b))
    (he : ∀ n a V, P m a V → ∃ b, L (n + 1) a (on m) V = some b ∧ Q (.inl a) b) :
    ∀ k i n a V, i + k = m → k < n → P i a V → ∃ b, L n a (on i) V = some b ∧ Q (foe g c k i a) b := by
  intro k
  induction k with
  | zero =>
    intro i n a V hi hn hP
    obtain ⟨n, rfl⟩ : ∃ n', n = n' + 1 := ⟨n - 1, by omega⟩
    obtain rfl : i = m := by omega
    exact he n a V hP
  | succ k ih =>
    intro i n a V hi hn hP
    obtain ⟨n, rfl⟩ : ∃ n', n = n' + 1 := ⟨n - 1, by omega⟩
    obtain ⟨h1, h2⟩ := hs n a i V (by omega) hP
    rw [foe]
    cases e : c i a with
    | some r => exact h2 r e
    | none =>
      obtain ⟨V', e', hP'⟩ := h1 e
      rw [e']
      exact ih (i + 1) n (g i a) V' (by omega) (by omega) hP'
