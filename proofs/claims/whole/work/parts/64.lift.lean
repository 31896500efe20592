/-! ===== turns and lifts of those on the wheel ===== -/
theorem ai_min_ti (x y : Int32) : (ai_min x y).toInt = min x.toInt y.toInt := by
  unfold ai_min
  by_cases e : y < x
  · rw [if_pos e]; rw [ti_lt] at e; omega
  · rw [if_neg e]; rw [ti_lt] at e; omega
theorem ai_max_ti (x y : Int32) : (ai_max x y).toInt = max x.toInt y.toInt := by
  unfold ai_max
  by_cases e : x < y
  · rw [if_pos e]; rw [ti_lt] at e; omega
  · rw [if_neg e]; rw [ti_lt] at e; omega
theorem fmin (p : Nat → Prop) [DecidablePred p] (pc : Nat → Int32) (m : Nat) (a0 : Int32) : (fo (fun k a => if p k then ai_min a (pc k) else a) m 0 a0).toInt ≤ a0.toInt ∧ (∀ k, k < m → p k → (fo (fun k a => if p k then ai_min a (pc k) else a) m 0 a0).toInt ≤ (pc k).toInt) ∧ (fo (fun k a => if p k then ai_min a (pc k) else a) m 0 a0 = a0 ∨ ∃ k, k < m ∧ p k ∧ fo (fun k a => if p k then ai_min a (pc k) else a) m 0 a0 = pc k) := by
  have := fo_ind (g := fun k a => if p k then ai_min a (pc k) else a) (fun i R => R.toInt ≤ a0.toInt ∧ (∀ k, k < i → p k → R.toInt ≤ (pc k).toInt) ∧ (R = a0 ∨ ∃ k, k < i ∧ p k ∧ R = pc k)) m ?_ m 0 a0 (by omega) ⟨Int.le_refl _, fun k hk => absurd hk (by omega), Or.inl rfl⟩
  · simpa using this
  · intro i R hi ⟨h1, h2, h3⟩
    by_cases e : p i
    · simp only [if_pos e]
      refine ⟨by rw [ai_min_ti]; omega, ?_, ?_⟩
      · intro k hk hp
        rw [ai_min_ti]
        by_cases e2 : k = i
        · subst e2; omega
        · have := h2 k (by omega) hp; omega
      · unfold ai_min
        by_cases e3 : pc i < R
        · rw [if_pos e3]; exact Or.inr ⟨i, by omega, e, rfl⟩
        · rw [if_neg e3]
          rcases h3 with h3 | ⟨k, hk, hp, hR⟩
          · exact Or.inl h3
          · exact Or.inr ⟨k, by omega, hp, hR⟩
    · simp only [if_neg e]
      refine ⟨h1, ?_, ?_⟩
      · intro k hk hp
        by_cases e2 : k = i
        · subst e2; exact absurd hp e
        · exact h2 k (by omega) hp
      · rcases h3 with h3 | ⟨k, hk, hp, hR⟩
        · exact Or.inl h3
        · exact Or.inr ⟨k, by omega, hp, hR⟩
theorem tb_one : ∀ i, i < 6 → ∀ k, k < 6 → ((2 ^ i).testBit k = true ↔ k = i) := by decide +kernel
theorem tb_two : ∀ i, i < 6 → ∀ j, j < 6 → ∀ k, k < 6 → ((2 ^ i ||| 2 ^ j).testBit k = true ↔ (k = i ∨ k = j)) := by decide +kernel
theorem pw_ne : ∀ i, i < 6 → ∀ j, j < 6 → (2 ^ i ||| 2 ^ j ≠ 0 ∧ 2 ^ i ≠ 0) := by decide +kernel
theorem tn_one {h : Hs} (hO : HO h) {i : Nat} (hi : i < hm h) : tn h (2 ^ i) = hpc h i := by
  have h6 := hO.1
  obtain ⟨-, ⟨p1, p2⟩, -⟩ := hO.2.2 i hi
  rw [tn, if_neg (pw_ne i (by omega) i (by omega)).2, fo_congr (g' := fun k a => if k = i then ai_min a (hpc h k) else a) (hm h) 0 9 (fun k _ hk b => by simp only [tb_one i (by omega) k (by omega)])]
  obtain ⟨a1, a2, a3⟩ := fmin (fun k => k = i) (hpc h) (hm h) 9
  have a2 := a2 i hi rfl
  rw [ti_eq]
  rcases a3 with a3 | ⟨k, -, rfl, a3⟩
  · rw [a3] at a2 ⊢
    have e9 : (9 : Int32).toInt = 9 := rfl
    omega
  · rw [a3]
theorem tn_two {h : Hs} (hO : HO h) {i j : Nat} (hi : i < hm h) (hj : j < hm h) : tn h (2 ^ i ||| 2 ^ j) = ai_min (hpc h i) (hpc h j) := by
  have h6 := hO.1
  obtain ⟨-, ⟨p1, p2⟩, -⟩ := hO.2.2 i hi
  rw [tn, if_neg (pw_ne i (by omega) j (by omega)).1, fo_congr (g' := fun k a => if k = i ∨ k = j then ai_min a (hpc h k) else a) (hm h) 0 9 (fun k _ hk b => by simp only [tb_two i (by omega) j (by omega) k (by omega)])]
  obtain ⟨a1, a2, a3⟩ := fmin (fun k => k = i ∨ k = j) (hpc h) (hm h) 9
  have a2i := a2 i hi (Or.inl rfl)
  have a2j := a2 j hj (Or.inr rfl)
  have e9 : (9 : Int32).toInt = 9 := rfl
  rw [ti_eq, ai_min_ti]
  rcases a3 with a3 | ⟨k, -, rfl | rfl, a3⟩
  · rw [a3] at a2i a2j ⊢; omega
  · rw [a3] at a2i a2j ⊢; omega
  · rw [a3] at a2i a2j ⊢; omega
theorem tn_0 (h : Hs) : tn h 0 = 0 := if_pos rfl
theorem turnsC_eq {V : ai_V} {h : Hs} (hO : HO h) (hC : CH V h) {x y : Int32} {b : Nat} (hp : pr h x y b) : d_House_turnsOf x y V = some (tn h b) := by
  have h6 := hO.1
  rw [d_House_turnsOf, has_eq hC, bd_some]
  rcases hp with ⟨rfl, rfl, rfl⟩ | ⟨i, hi, rfl, rfl, rfl⟩ | ⟨i, j, hi, hj, hn, rfl, rfl, rfl⟩
  · rw [if_pos (tf_neg no_has), d_House_turnsOf_18, has_eq hC, bd_some, if_pos (tf_neg no_has), tn_0]
  · rw [if_neg (by rw [tf_pos (on_has hO hi)]; decide), if_pos (by rw [on_in (by omega)]; omega), d_House_turnsOf_18, has_eq hC, bd_some, if_pos (tf_neg no_has), tn_one hO hi, on_nn (by omega), hC.2.2.2.2.1]
  · rw [if_neg (by rw [tf_pos (on_has hO hi)]; decide), if_pos (by rw [on_in (by omega)]; omega), d_House_turnsOf_18, has_eq hC, bd_some, if_neg (by rw [tf_pos (on_has hO hj)]; decide), if_pos (by rw [on_in (by omega)]; omega), tn_two hO hi hj, on_nn (by omega), on_nn (by omega), hC.2.2.2.2.1]
theorem turnsC_eq' {V : ai_V} {h : Hs} (hO : HO h) (hC : CH V h) {i j : Nat} (hi : i < hm h) (hj : j < hm h) : d_House_turnsOf (on j) (on i) V = some (tn h (2 ^ i ||| 2 ^ j)) := by
  have h6 := hO.1
  rw [d_House_turnsOf, has_eq hC, bd_some, if_neg (by rw [tf_pos (on_has hO hj)]; decide), if_pos (by rw [on_in (by omega)]; omega), d_House_turnsOf_18, has_eq hC, bd_some, if_neg (by rw [tf_pos (on_has hO hi)]; decide), if_pos (by rw [on_in (by omega)]; omega), tn_two hO hi hj, on_nn (by omega), on_nn (by omega), hC.2.2.2.2.1]
  congr 1
  rw [ti_eq, ai_min_ti, ai_min_ti]; omega
/-- pails that one of b lifts -/
def lf (h : Hs) (f : Rf) (i b : Nat) (lv q br : Int32) : Int32 := if bt br (on i) then 0 else clp (f (tn h b) (hpc h i) (hwt h i) lv (on (popc b)) q (hst h i))
def LA (h : Hs) (f : Rf) (b : Nat) (lv q br : Int32) : Int32 := fo (fun i a => a + (if b.testBit i = true then lf h f i b lv q br else 0)) (hm h) 0 0
def lfo (h : Hs) (f : Rf) (x : Int32) (b : Nat) (lv q br : Int32) : Int32 := if x = -1 then 0 else lf h f x.toNatClampNeg b lv q br
theorem fsum_ind (u : Nat → Int32) (i : Nat) : ∀ m (a : Int32), fo (fun k a => a + (if k = i then u k else 0)) m 0 a = a + (if i < m then u i else 0) := by
  intro m
  induction m with
  | zero => intro a; rw [if_neg (by omega)]; simp [fo]
  | succ m ih =>
    intro a
    rw [fo_s, ih, Nat.zero_add]
    by_cases e : m = i
    · subst e; simp
    · by_cases e2 : i < m
      · simp [e, e2, show i < m + 1 by omega]
      · simp [e, e2, show ¬ i < m + 1 by omega]
theorem fsum_add (u v : Nat → Int32) : ∀ m (a b : Int32), fo (fun k a => a + (u k + v k)) m 0 (a + b) = fo (fun k a => a + u k) m 0 a + fo (fun k a => a + v k) m 0 b := by
  intro m
  induction m with
  | zero => intro a b; rfl
  | succ m ih =>
    intro a b
    rw [fo_s, fo_s, fo_s, ih, Nat.zero_add]
    generalize fo (fun k a => a + u k) m 0 a = p
    generalize fo (fun k a => a + v k) m 0 b = q
    rw [Int32.add_assoc, Int32.add_assoc]
    congr 1
    rw [← Int32.add_assoc, Int32.add_comm q, Int32.add_assoc]
theorem LA_0 (h : Hs) (f : Rf) (lv q br : Int32) : LA h f 0 lv q br = 0 := by
  rw [LA, fo_congr (g' := fun k a => a + (if k = hm h then (fun _ => (0 : Int32)) k else 0)) (hm h) 0 0 (fun k _ hk b => by simp), fsum_ind, if_neg (by omega)]
  rfl
theorem LA_one {h : Hs} (hO : HO h) (f : Rf) {i : Nat} (hi : i < hm h) (lv q br : Int32) : LA h f (2 ^ i) lv q br = lf h f i (2 ^ i) lv q br := by
  have h6 := hO.1
  rw [LA, fo_congr (g' := fun k a => a + (if k = i then (fun k => lf h f k (2 ^ i) lv q br) k else 0)) (hm h) 0 0 (fun k _ hk b => by simp only [tb_one i (by omega) k (by omega)]), fsum_ind, if_pos hi]
  simp
theorem LA_two {h : Hs} (hO : HO h) (f : Rf) {i j : Nat} (hi : i < hm h) (hj : j < hm h) (hn : i ≠ j) (lv q br : Int32) : LA h f (2 ^ i ||| 2 ^ j) lv q br = lf h f i (2 ^ i ||| 2 ^ j) lv q br + lf h f j (2 ^ i ||| 2 ^ j) lv q br := by
  have h6 := hO.1
  have := fsum_add (fun k => if k = i then (fun k => lf h f k (2 ^ i ||| 2 ^ j) lv q br) k else 0) (fun k => if k = j then (fun k => lf h f k (2 ^ i ||| 2 ^ j) lv q br) k else 0) (hm h) 0 0
  rw [fsum_ind, fsum_ind, if_pos hi, if_pos hj] at this
  rw [LA, fo_congr (g' := fun k a => a + ((if k = i then (fun k => lf h f k (2 ^ i ||| 2 ^ j) lv q br) k else 0) + (if k = j then (fun k => lf h f k (2 ^ i ||| 2 ^ j) lv q br) k else 0))) (hm h) 0 0 ?_]
  · simpa using this
  · intro k _ hk b
    simp only [tb_two i (by omega) j (by omega) k (by omega)]
    by_cases e : k = i
    · subst e; simp [hn]
    · by_cases e2 : k = j
      · subst e2; simp [e]
      · simp [e, e2]
theorem lfo_sum {h : Hs} (hO : HO h) (f : Rf) {x y : Int32} {b : Nat} (hp : pr h x y b) (lv q br : Int32) : lfo h f x b lv q br + lfo h f y b lv q br = LA h f b lv q br := by
  have h6 := hO.1
  rcases hp with ⟨rfl, rfl, rfl⟩ | ⟨i, hi, rfl, rfl, rfl⟩ | ⟨i, j, hi, hj, hn, rfl, rfl, rfl⟩
  · rw [LA_0]; rfl
  · rw [LA_one hO f hi, lfo, lfo, if_neg (on_ne_m1 (by omega)), if_pos rfl, on_nn (by omega)]; simp
  · rw [LA_two hO f hi hj hn, lfo, lfo, if_neg (on_ne_m1 (by omega)), if_neg (on_ne_m1 (by omega)), on_nn (by omega), on_nn (by omega)]
theorem popc_pr : ∀ i, i < 6 → ∀ j, j < 6 → popc (2 ^ i) = 1 ∧ (i ≠ j → popc (2 ^ i ||| 2 ^ j) = 2) := by decide +kernel
/-- the class's pails -/
theorem pails_core {V : ai_V} {h : Hs} {f : Rf} (hO : HO h) (hC : CH V h) (hR : CR V f) {i b : Nat} (hi : i < hm h) {y : Int32} (ht : d_House_turnsOf (on i) y V = some (tn h b)) (hy : (if y = -1 then (1 : Int32) else 2) = on (popc b)) (lv q br : Int32) : ∃ V', d_Wheel_pails (on i) y lv q br V = some (lf h f i b lv q br, V') := by
  have h6 := hO.1
  obtain ⟨c1, c2, c3, c4, c5, c6, c7, c8⟩ := hC
  have hin : ai_in (on i) 6 := by rw [on_in (by omega)]; omega
  rw [d_Wheel_pails, has_eq ⟨c1, c2, c3, c4, c5, c6, c7, c8⟩, bd_some, if_neg (by rw [tf_pos (on_has hO hi)]; decide), lf]
  by_cases e : bt br (on i)
  · rw [if_neg (fun hn => hn e), if_pos e]; exact ⟨V, rfl⟩
  · rw [if_pos e, if_neg e, ht, bd_some, if_pos hin, if_pos hin]
    have fin : ∀ V1 : ai_V, ∀ s0 : Int32, s0 = on (popc b) → gi V1 10 1 = gi V 10 1 → ga V1 11 = ga V 11 → ga V1 4 = hst h → ga V1 12 0 = tn h b → ga V1 12 1 = hpc h i → ga V1 12 2 = hwt h i → ga V1 12 3 = lv → ∃ V', d_Wheel_pails_89 (on i) q s0 (4 : Int32) V1 = some (clp (f (tn h b) (hpc h i) (hwt h i) lv (on (popc b)) q (hst h i)), V') := by
      intro V1 s0 hs e1 e2 e3 t0 t1 t2 t3
      rw [d_Wheel_pails_89, if_pos (by decide), if_pos hin]
      obtain ⟨V2, hV2⟩ := hR (sa (sa (sa V1 12 ((4 : Int32)).toNatClampNeg s0) 12 ((5 : Int32)).toNatClampNeg q) 12 ((6 : Int32)).toNatClampNeg (ga (sa (sa V1 12 ((4 : Int32)).toNatClampNeg s0) 12 ((5 : Int32)).toNatClampNeg q) 4 (on i).toNatClampNeg)) e1 (by rw [ga_sa_ne (by decide), ga_sa_ne (by decide), ga_sa_ne (by decide)]; exact e2)
      rw [hV2, bd_some]
      refine ⟨V2, ?_⟩
      simp only [ga_sa, show ((4 : Int32)).toNatClampNeg = 4 from rfl, show ((5 : Int32)).toNatClampNeg = 5 from rfl, show ((6 : Int32)).toNatClampNeg = 6 from rfl, on_nn (show i < 2147483648 by omega)]
      simp [t0, t1, t2, t3, e3, hs]
    by_cases e2 : y = -1
    · rw [if_neg (fun hn => hn e2)]
      rw [if_pos e2] at hy
      refine fin _ _ hy rfl ?_ ?_ ?_ ?_ ?_ ?_
      · simp only [ga_sa_ne (show (11 : Nat) ≠ 12 by decide)]
      · simp only [ga_sa_ne (show (4 : Nat) ≠ 12 by decide), c4]
      · simp [ga_sa, show ((0 : Int32)).toNatClampNeg = 0 from rfl, show ((1 : Int32)).toNatClampNeg = 1 from rfl, show ((2 : Int32)).toNatClampNeg = 2 from rfl, show ((3 : Int32)).toNatClampNeg = 3 from rfl]
      · simp [ga_sa, show ((0 : Int32)).toNatClampNeg = 0 from rfl, show ((1 : Int32)).toNatClampNeg = 1 from rfl, show ((2 : Int32)).toNatClampNeg = 2 from rfl, show ((3 : Int32)).toNatClampNeg = 3 from rfl, on_nn (show i < 2147483648 by omega), c5]
      · simp [ga_sa, show ((0 : Int32)).toNatClampNeg = 0 from rfl, show ((1 : Int32)).toNatClampNeg = 1 from rfl, show ((2 : Int32)).toNatClampNeg = 2 from rfl, show ((3 : Int32)).toNatClampNeg = 3 from rfl, on_nn (show i < 2147483648 by omega), c6]
      · simp [ga_sa, show ((3 : Int32)).toNatClampNeg = 3 from rfl]
    · rw [if_pos e2]
      rw [if_neg e2] at hy
      refine fin _ _ hy rfl ?_ ?_ ?_ ?_ ?_ ?_
      · simp only [ga_sa_ne (show (11 : Nat) ≠ 12 by decide)]
      · simp only [ga_sa_ne (show (4 : Nat) ≠ 12 by decide), c4]
      · simp [ga_sa, show ((0 : Int32)).toNatClampNeg = 0 from rfl, show ((1 : Int32)).toNatClampNeg = 1 from rfl, show ((2 : Int32)).toNatClampNeg = 2 from rfl, show ((3 : Int32)).toNatClampNeg = 3 from rfl]
      · simp [ga_sa, show ((0 : Int32)).toNatClampNeg = 0 from rfl, show ((1 : Int32)).toNatClampNeg = 1 from rfl, show ((2 : Int32)).toNatClampNeg = 2 from rfl, show ((3 : Int32)).toNatClampNeg = 3 from rfl, on_nn (show i < 2147483648 by omega), c5]
      · simp [ga_sa, show ((0 : Int32)).toNatClampNeg = 0 from rfl, show ((1 : Int32)).toNatClampNeg = 1 from rfl, show ((2 : Int32)).toNatClampNeg = 2 from rfl, show ((3 : Int32)).toNatClampNeg = 3 from rfl, on_nn (show i < 2147483648 by omega), c6]
      · simp [ga_sa, show ((3 : Int32)).toNatClampNeg = 3 from rfl]
theorem pails_no {V : ai_V} {h : Hs} (hC : CH V h) (y lv q br : Int32) : d_Wheel_pails (-1) y lv q br V = some (0, V) := by
  rw [d_Wheel_pails, has_eq hC, bd_some, if_pos (tf_neg no_has)]
theorem pails_1 {V : ai_V} {h : Hs} {f : Rf} (hO : HO h) (hC : CH V h) (hR : CR V f) {x y : Int32} {b : Nat} (hp : pr h x y b) (lv q br : Int32) : ∃ V', d_Wheel_pails x y lv q br V = some (lfo h f x b lv q br, V') := by
  have h6 := hO.1
  have ht := turnsC_eq hO hC hp
  rcases hp with ⟨rfl, rfl, rfl⟩ | ⟨i, hi, rfl, rfl, rfl⟩ | ⟨i, j, hi, hj, hn, rfl, rfl, rfl⟩
  · exact ⟨V, by rw [pails_no hC, lfo, if_pos rfl]⟩
  · rw [lfo, if_neg (on_ne_m1 (by omega)), on_nn (by omega)]
    exact pails_core hO hC hR hi ht (by rw [if_pos rfl, (popc_pr i (by omega) i (by omega)).1]; rfl) lv q br
  · rw [lfo, if_neg (on_ne_m1 (by omega)), on_nn (by omega)]
    exact pails_core hO hC hR hi ht (by rw [if_neg (on_ne_m1 (by omega)), (popc_pr i (by omega) j (by omega)).2 hn]; rfl) lv q br
theorem pails_2 {V : ai_V} {h : Hs} {f : Rf} (hO : HO h) (hC : CH V h) (hR : CR V f) {x y : Int32} {b : Nat} (hp : pr h x y b) (lv q br : Int32) : ∃ V', d_Wheel_pails y x lv q br V = some (lfo h f y b lv q br, V') := by
  have h6 := hO.1
  rcases hp with ⟨rfl, rfl, rfl⟩ | ⟨i, hi, rfl, rfl, rfl⟩ | ⟨i, j, hi, hj, hn, rfl, rfl, rfl⟩
  · exact ⟨V, by rw [pails_no hC, lfo, if_pos rfl]⟩
  · exact ⟨V, by rw [pails_no hC, lfo, if_pos rfl]⟩
  · rw [lfo, if_neg (on_ne_m1 (by omega)), on_nn (by omega)]
    exact pails_core hO hC hR hj (turnsC_eq' hO hC hi hj) (by rw [if_neg (on_ne_m1 (by omega)), (popc_pr i (by omega) j (by omega)).2 hn]; rfl) lv q br
