/-! ===== wants, and how they are taken ===== -/
theorem on_div {a d : Nat} (ha : a < 2147483648) (hd : d < 2147483648) : on a / on d = on (a / d) := (Int32.ofNat_div ha hd).symm
theorem on_mod {a d : Nat} (ha : a < 2147483648) (hd : d < 2147483648) : on a - on a / on d * on d = on (a % d) := by
  rw [on_div ha hd, on_mul, on_sub (Nat.div_mul_le_self a d)]
  congr 1
  have := Nat.div_add_mod a d
  rw [Nat.mul_comm] at this
  omega
theorem q12_on {a : Nat} (ha : a < 2147483648) : q12 (on a) = on (a % 12) := on_mod ha (by decide)
/-- the want of j in quarter q -/
def wnt (h : Hs) (j q : Nat) : Int32 := hwn h (12 * j + q % (hwd h j).toNatClampNeg)
theorem hwd_on {h : Hs} (hO : HO h) {j : Nat} (hj : j < hm h) : ∃ d, hwd h j = on d ∧ 1 ≤ d ∧ d ≤ 12 := by
  obtain ⟨-, -, -, ⟨w1, w2⟩, -⟩ := hO.2.2 j hj
  have e := on_of (x := hwd h j) (by rw [ti_le]; show (0 : Int) ≤ _; omega)
  refine ⟨(hwd h j).toNatClampNeg, e.symm, ?_, ?_⟩
  · have := ti_nn (hwd h j); omega
  · have := ti_nn (hwd h j); omega
theorem wantC_eq {V : ai_V} {h : Hs} (hO : HO h) (hC : CH V h) {j q : Nat} (hj : j < hm h) (hq : q < 12) : d_House_wantOf (on j) (on q) V = some (wnt h j q) := by
  have h6 := hO.1
  obtain ⟨d, hd, d1, d2⟩ := hwd_on hO hj
  have hhas := has_eq hC (on j)
  obtain ⟨c1, c2, c3, c4, c5, c6, c7, c8⟩ := hC
  have hlt : q % d < 12 := by
    have := Nat.mod_lt q (show d > 0 by omega); omega
  rw [d_House_wantOf, hhas, bd_some, tf_pos (on_has hO hj), if_neg (by decide), if_pos (by rw [on_in (by omega)]; omega), on_nn (by omega), c8, hd, d_House_wantOf_18, if_neg (by rw [show (1 : Int32) = on 1 from rfl, on_lt (by omega) (by omega)]; omega), if_pos (on_ge0 (by omega)), if_neg (by rw [show (0 : Int32) = on 0 from rfl, on_inj (by omega) (by omega)]; omega), on_mod (by omega) (by omega), show (12 : Int32) = on 12 from rfl, on_mul, on_add, if_pos (by rw [on_in (by omega)]; omega), on_nn (by omega), c7, wnt, hd, on_nn (by omega), Nat.mul_comm j 12]
theorem wantM_eq {V : ai_V} {h : Hs} (hO : HO h) (hM : MH V h) {j w : Nat} (hj : j < hm h) (hw : w < 2147483648) : d_M_wantOf (on j) (on w) V = some (wnt h j (w % 12)) := by
  have h6 := hO.1
  obtain ⟨d, hd, d1, d2⟩ := hwd_on hO hj
  obtain ⟨c1, c2, c3, c4, c5, c6, c7, c8⟩ := hM
  have hlt : w % 12 % d < 12 := by
    have := Nat.mod_lt (w % 12) (show d > 0 by omega); omega
  rw [d_M_wantOf, if_pos (by rw [on_in (by omega)]; omega), on_nn (by omega), c8, hd, if_neg (by rw [show (0 : Int32) = on 0 from rfl, on_inj (by omega) (by omega)]; omega), show (12 : Int32) = on 12 from rfl, on_mod hw (by omega), on_mod (by omega) (by omega), on_mul, on_add, if_pos (by rw [on_in (by omega)]; omega), on_nn (by omega), c7, wnt, hd, on_nn (by omega)]
def tkS (h : Hs) (q j : Nat) (a : Int32 × Nat) : Int32 × Nat := if a.1 < wnt h j q then (a.1, a.2 ||| 2 ^ j) else (a.1 - wnt h j q, a.2)
def tk (h : Hs) (q : Nat) (l : List Nat) (a : Int32 × Nat) : Int32 × Nat := l.foldl (fun a j => tkS h q j a) a
theorem tk_snoc (h : Hs) (q : Nat) (l : List Nat) (j : Nat) (a : Int32 × Nat) : tk h q (l ++ [j]) a = tkS h q j (tk h q l a) := by
  unfold tk; rw [List.foldl_append]; rfl
theorem tk_app (h : Hs) (q : Nat) (l l' : List Nat) (a : Int32 × Nat) : tk h q (l ++ l') a = tk h q l' (tk h q l a) := by
  unfold tk; rw [List.foldl_append]
theorem tb_or : ∀ b, b < 64 → ∀ i, i < 6 → ∀ k, k < 6 → ((b ||| 2 ^ i).testBit k = true ↔ (b.testBit k = true ∨ k = i)) := by decide +kernel
/-- bits of the dry are of those asked -/
theorem tk_bits' (h : Hs) (q : Nat) : ∀ (l : List Nat) (a : Int32 × Nat), (∀ j ∈ l, j < 6) → a.2 < 64 → (tk h q l a).2 < 64 ∧ ∀ k, k < 6 → (tk h q l a).2.testBit k = true → (a.2.testBit k = true ∨ k ∈ l) := by
  intro l
  induction l with
  | nil => intro a _ ha; exact ⟨ha, fun k _ h => Or.inl h⟩
  | cons j l ih =>
    intro a hl ha
    have hj : j < 6 := hl j (by simp)
    have h1 : (tkS h q j a).2 < 64 ∧ ∀ k, k < 6 → (tkS h q j a).2.testBit k = true → (a.2.testBit k = true ∨ k = j) := by
      unfold tkS
      by_cases e : a.1 < wnt h j q
      · rw [if_pos e]
        exact ⟨or_lt _ ha j hj, fun k hk hb => (tb_or _ ha j hj k hk).mp hb⟩
      · rw [if_neg e]
        exact ⟨ha, fun k hk hb => Or.inl hb⟩
    obtain ⟨i1, i2⟩ := ih (tkS h q j a) (fun k hk => hl k (List.mem_cons_of_mem _ hk)) h1.1
    refine ⟨i1, fun k hk hb => ?_⟩
    rcases i2 k hk hb with hb | hb
    · rcases h1.2 k hk hb with hb | rfl
      · exact Or.inl hb
      · exact Or.inr List.mem_cons_self
    · exact Or.inr (List.mem_cons_of_mem _ hb)
theorem tk_bits (h : Hs) (q : Nat) (l : List Nat) (lv : Int32) (hl : ∀ j ∈ l, j < 6) : (tk h q l (lv, 0)).2 < 64 ∧ ∀ k, k < 6 → (tk h q l (lv, 0)).2.testBit k = true → k ∈ l := by
  obtain ⟨a, b⟩ := tk_bits' h q l (lv, 0) hl (by show 0 < 64; decide)
  refine ⟨a, fun k hk hb => ?_⟩
  rcases b k hk hb with hb | hb
  · simp at hb
  · exact hb
/-- a level stays between 0 and what it was -/
theorem tk_level {h : Hs} (hO : HO h) {q : Nat} : ∀ (l : List Nat) (a : Int32 × Nat), (∀ j ∈ l, j < hm h) → 0 ≤ a.1.toInt → 0 ≤ (tk h q l a).1.toInt ∧ (tk h q l a).1.toInt ≤ a.1.toInt := by
  intro l
  induction l with
  | nil => intro a _ h0; exact ⟨h0, Int.le_refl _⟩
  | cons j l ih =>
    intro a hl h0
    obtain ⟨d, hd, d1, d2⟩ := hwd_on hO (hl j (by simp))
    have hq : q % d < 12 := by have := Nat.mod_lt q (show d > 0 by omega); omega
    obtain ⟨w1, w2⟩ := (hO.2.2 j (hl j (by simp))).2.2.2.2 (q % d) hq
    have key : 0 ≤ (tkS h q j a).1.toInt ∧ (tkS h q j a).1.toInt ≤ a.1.toInt := by
      unfold tkS
      by_cases e : a.1 < wnt h j q
      · rw [if_pos e]; exact ⟨h0, Int.le_refl _⟩
      · rw [if_neg e]
        rw [ti_lt] at e
        have ew : (wnt h j q).toInt = (hwn h (12 * j + q % d)).toInt := by rw [wnt, hd, on_nn (by omega)]
        show 0 ≤ (a.1 - wnt h j q).toInt ∧ (a.1 - wnt h j q).toInt ≤ a.1.toInt
        have := ti_hi a.1
        rw [ti_sub (by omega) (by omega)]
        omega
    obtain ⟨b1, b2⟩ := ih (tkS h q j a) (fun k hk => hl k (List.mem_cons_of_mem _ hk)) key.1
    exact ⟨b1, Int.le_trans b2 key.2⟩
/-! orders -/
theorem ordL_mem {g : Nat → Int32} {m j : Nat} (h : j ∈ ordL g m) : j < m := by
  unfold ordL at h
  simp only [List.mem_flatMap, List.mem_filter, List.mem_range] at h
  obtain ⟨y, -, h, -⟩ := h
  exact h
theorem flt_len (g : Nat → Int32) (y : Nat) (m : Nat) : ((List.range (m + 1)).filter fun i => decide (g i = on y)).length = ((List.range m).filter fun i => decide (g i = on y)).length + (if g m = on y then 1 else 0) := by
  rw [List.range_succ, List.filter_append, List.length_append]
  congr 1
  by_cases e : g m = on y
  · simp [e]
  · simp [e]
theorem ordL_len {g : Nat → Int32} : ∀ {m : Nat}, (∀ i, i < m → 0 ≤ (g i).toInt ∧ (g i).toInt ≤ 5) → (ordL g m).length = m := by
  intro m
  induction m with
  | zero => intro _; rfl
  | succ m ih =>
    intro hg
    have i1 := ih (fun i hi => hg i (by omega))
    obtain ⟨g1, g2⟩ := hg m (by omega)
    have e := on_of (x := g m) (by rw [ti_le]; show (0 : Int) ≤ _; omega)
    have e5 : (g m).toNatClampNeg < 6 := by have := ti_nn (g m); omega
    generalize (g m).toNatClampNeg = y at e e5
    unfold ordL at i1 ⊢
    rw [show List.range 6 = [0, 1, 2, 3, 4, 5] from rfl] at i1 ⊢
    simp only [List.flatMap_cons, List.flatMap_nil, List.length_append, List.length_nil, flt_len] at i1 ⊢
    rw [← e]
    have hy : y = 0 ∨ y = 1 ∨ y = 2 ∨ y = 3 ∨ y = 4 ∨ y = 5 := by omega
    rcases hy with rfl | rfl | rfl | rfl | rfl | rfl <;> simp [on_inj] <;> omega
theorem ordL_nd (g : Nat → Int32) (m : Nat) : (ordL g m).Nodup := by
  unfold ordL
  unfold List.Nodup
  rw [List.pairwise_flatMap]
  refine ⟨fun y _ => List.Pairwise.filter _ List.nodup_range, ?_⟩
  refine List.Pairwise.imp_of_mem ?_ (List.nodup_range (n := 6))
  intro a b ha hb hab
  rw [List.mem_range] at ha hb
  rintro x hx x' hx' rfl
  rw [List.mem_filter] at hx hx'
  have e1 := of_decide_eq_true hx.2
  have e2 := of_decide_eq_true hx'.2
  rw [e1, on_inj (by omega) (by omega)] at e2
  exact hab e2
