/-! ===== rule: the model reads ===== -/
def wP : Fw := ([(89, 18), (89, 19)], [])
def MO (V0 : ai_V) (e : Ev) (o : Option (Int32 × ai_V)) (r : Pr) : Prop := match r with
  | .inl p => ∃ v V', o = some (v, V') ∧ gi V' 89 19 = on p ∧ Fr wP V0 V'
  | .inr (j, f, _) => ∃ V', o = some (f e, V') ∧ gi V' 89 18 = on j ∧ gi V' 89 19 = -1 ∧ Fr wP V0 V'
def HM (V0 : ai_V) (c : Nat → Int32) : Prop := ∀ V i, Fr wP V0 V → gi V 89 18 = on i → i ≤ 40 → d_M_here V = some (c i)
def HD (V0 : ai_V) (c : Nat → Int32) : Prop := ∀ V i, Fr wP V0 V → gi V 89 18 = on i → gi V 89 19 = -1 → btw (c i) 48 57 → i < 40 → d_M_digit 0 9 V = some (c i - 48, si V 89 18 (on (i + 1)))
def HV (V0 : ai_V) (c : Nat → Int32) (e : Ev) : Prop := ∀ (T : Int32 → ai_V → Option (Int32 × ai_V)) V i, Fr wP V0 V → gi V 89 18 = on i → vIx (c i) < 7 → d_M_thing_176 T (c i) V = some (e (vIx (c i)), si V 89 18 (on (i + 1)))
def RdM (V0 : ai_V) (e : Ev) (b : Nat) (D : ai_V → Option (Int32 × ai_V)) (P : Nat → Pr) : Prop := ∀ V i, b ≤ i → i ≤ 40 → Fr wP V0 V → gi V 89 18 = on i → gi V 89 19 = -1 → MO V0 e (D V) (P i)
theorem go_18 (V : ai_V) (x : Int32) : gi (si V 89 18 x) 89 18 = x := by rw [gi_si, if_pos ⟨rfl, rfl⟩]
theorem go_19 {V : ai_V} (h : gi V 89 19 = -1) (x : Int32) : gi (si V 89 18 x) 89 19 = -1 := by rw [gi_si, if_neg (by decide)]; exact h
theorem go8 {V0 V : ai_V} {x : Int32} (F : Fr wP V0 V) : Fr wP V0 (si V 89 18 x) := Fr.si F rfl
theorem go9 {V0 V : ai_V} {x : Int32} (F : Fr wP V0 V) : Fr wP V0 (si V 89 19 x) := Fr.si F rfl
theorem ps_y {V0 V : ai_V} {c : Nat → Int32} {i : Nat} {x : Int32} (hH : HM V0 c) (hF : Fr wP V0 V) (h1 : gi V 89 18 = on i) (h2 : gi V 89 19 = -1) (hi : i ≤ 40) (hx : c i = x) : d_M_passes x V = some (1, si V 89 18 (on (i + 1))) := by
  rw [d_M_passes, fine_y h2, bd_some, if_neg (by decide), hH V i hF h1 hi, bd_some, if_pos hx, h1, on_s]
theorem ps_n {V0 V : ai_V} {c : Nat → Int32} {i : Nat} {x : Int32} (hH : HM V0 c) (hF : Fr wP V0 V) (h1 : gi V 89 18 = on i) (h2 : gi V 89 19 = -1) (hi : i ≤ 40) (hx : ¬ c i = x) : d_M_passes x V = some (0, V) := by
  rw [d_M_passes, fine_y h2, bd_some, if_neg (by decide), hH V i hF h1 hi, bd_some, if_neg hx]
theorem M_product {V0 : ai_V} {e : Ev} {c : Nat → Int32} (hc : KH c) (hH : HM V0 c) {T : Int32 → ai_V → Option (Int32 × ai_V)} {d : Int32} {S : Nat → Pr} {b : Nat} (hS : ∀ i, i ≤ 40 → GP i (S i)) (hT : RdM V0 e b (T d) S) : ∀ (g i n : Nat) (f : Ev → Int32) (l : List Int32) (V : ai_V), 40 ≤ i + g → i ≤ 40 → b ≤ i → g < n → gi V 89 18 = on i → gi V 89 19 = -1 → Fr wP V0 V →
    MO V0 e (d_M_product_6 T n d (f e) V) (rpL c qP S g i f l) := by
  intro g
  induction g with
  | zero =>
    intro i n f l V hg hi hb hn h1 h2 hF
    obtain ⟨n, rfl⟩ : ∃ n', n = n' + 1 := ⟨n - 1, by omega⟩
    rw [d_M_product_6, fine_y h2, bd_some, if_neg (by decide), hH V i hF h1 hi, bd_some, hc.1 i (by omega), if_neg (by decide), bd_some, if_pos (by decide), rpL]
    exact ⟨V, rfl, h1, h2, hF⟩
  | succ g ih =>
    intro i n f l V hg hi hb hn h1 h2 hF
    obtain ⟨n, rfl⟩ : ∃ n', n = n' + 1 := ⟨n - 1, by omega⟩
    have hh := hH V i hF h1 hi
    rw [rpL]
    by_cases eq : qP (c i) = true
    · have step : d_M_product_6 T (n + 1) d (f e) V = d_M_product_31 T (d_M_product_6 T n) d (f e) V := by
        rw [d_M_product_6, fine_y h2, bd_some, if_neg (by decide), hh, bd_some]
        rcases qP_o eq with e | e
        · rw [if_pos e]
        · rw [if_neg (by rw [e]; decide), bd_some, if_neg (fun hn => hn e)]
      have ho : opo (c i) := by rcases qP_o eq with h | h <;> simp [opo, h]
      have h40 := hc.lt (opo_m ho)
      rw [if_pos eq, step, d_M_product_31, hh, bd_some]
      have h := hT _ (i + 1) (by omega) (by omega) (go8 hF) (go_18 V (on (i + 1))) (go_19 h2 _)
      have hgg := hS (i + 1) (by omega)
      generalize S (i + 1) = r at h hgg
      rcases r with p | ⟨j, f2, l2⟩
      · obtain ⟨v, V2, e2, a1, F2⟩ := h
        have hp := hgg.2
        obtain ⟨n, rfl⟩ : ∃ n', n = n' + 1 := ⟨n - 1, by omega⟩
        have out : ∀ w, d_M_product_6 T (n + 1) d w V2 = some (w, V2) := by
          intro w
          rw [d_M_product_6, fine_n a1 (by omega), bd_some, if_pos rfl]
        show MO V0 e _ (.inl p)
        rcases qP_o eq with ec | ec
        · rw [if_neg (fun hn => hn ec), d_M_product_45, h1, on_s, e2, bd_some, if_neg (by decide), d_M_product_87, out]
          exact ⟨_, V2, rfl, a1, F2⟩
        · rw [if_pos (by rw [ec]; decide), d_M_product_45, h1, on_s, e2, bd_some, if_pos rfl]
          by_cases ev : v = 0
          · rw [if_neg (fun hn => hn ev), d_M_product_87, out]
            exact ⟨_, V2, rfl, a1, F2⟩
          · rw [if_pos ev, if_neg ev, d_M_product_87, out]
            exact ⟨_, V2, rfl, a1, F2⟩
      · obtain ⟨V2, e2, a1, a2, F2⟩ := h
        obtain ⟨g1, g2, g3, g4, g5⟩ := hgg
        have nx := ih j n (fun e => opf (c i) (f e) (f2 e)) (l ++ l2 ++ [2000 + c i]) V2 (by omega) g3 (by omega) (by omega) a1 a2 F2
        show MO V0 e _ (rpL c qP S g j (fun e => opf (c i) (f e) (f2 e)) (l ++ l2 ++ [2000 + c i]))
        rcases qP_o eq with ec | ec
        · rw [if_neg (fun hn => hn ec), d_M_product_45, h1, on_s, e2, bd_some, if_neg (by decide), d_M_product_87]
          have ev : opf (c i) (f e) (f2 e) = f e * f2 e := by rw [ec]; rfl
          simp only [ev] at nx
          exact nx
        · rw [if_pos (by rw [ec]; decide), d_M_product_45, h1, on_s, e2, bd_some, if_pos rfl]
          by_cases ev : f2 e = 0
          · rw [if_neg (fun hn => hn ev), d_M_product_87]
            have ew : opf (c i) (f e) (f2 e) = 0 := by rw [ec]; show (if f2 e = 0 then 0 else f e / f2 e) = 0; rw [if_pos ev]
            simp only [ew] at nx
            exact nx
          · rw [if_pos ev, if_neg ev, d_M_product_87]
            have ew : opf (c i) (f e) (f2 e) = f e / f2 e := by rw [ec]; show (if f2 e = 0 then 0 else f e / f2 e) = _; rw [if_neg ev]
            simp only [ew] at nx
            exact nx
    · rw [if_neg eq]
      have : d_M_product_6 T (n + 1) d (f e) V = some (f e, V) := by
        rw [d_M_product_6, fine_y h2, bd_some, if_neg (by decide), hh, bd_some, if_neg (fun h => eq (by simp [qP, h])), bd_some, if_pos (fun h => eq (by simp [qP, h]))]
      rw [this]
      exact ⟨V, rfl, h1, h2, hF⟩
theorem M_product' {V0 : ai_V} {e : Ev} {c : Nat → Int32} (hc : KH c) (hH : HM V0 c) {T : Int32 → ai_V → Option (Int32 × ai_V)} {d : Int32} {S : Nat → Pr} {b : Nat} (hS : ∀ i, i ≤ 40 → GP i (S i)) (hT : RdM V0 e b (T d) S) : RdM V0 e b (d_M_product_B T d) (fun i => rpB (S i) (rpL c qP S 40)) := by
  intro V i hb hi hF h1 h2
  have h := hT V i hb hi hF h1 h2
  have hg := hS i hi
  rw [d_M_product_B]
  simp only []
  generalize S i = r at h hg
  rcases r with p | ⟨j, f, l⟩
  · obtain ⟨v, V2, e2, a1, F2⟩ := h
    have hp := hg.2
    rw [e2, bd_some]
    have : d_M_product_6 T (19999 + 1) d v V2 = some (v, V2) := by
      rw [d_M_product_6, fine_n a1 (by omega), bd_some, if_pos rfl]
    show MO V0 e (d_M_product_6 T (19999 + 1) d v V2) (.inl p)
    rw [this]
    exact ⟨v, V2, rfl, a1, F2⟩
  · obtain ⟨V2, e2, a1, a2, F2⟩ := h
    obtain ⟨g1, g2, g3, g4, g5⟩ := hg
    rw [e2, bd_some]
    exact M_product hc hH hS hT 40 j ai_N f l V2 (by omega) g3 (by omega) (N_gt (by omega)) a1 a2 F2
theorem M_sum {V0 : ai_V} {e : Ev} {c : Nat → Int32} (hc : KH c) (hH : HM V0 c) {T : Int32 → ai_V → Option (Int32 × ai_V)} {d : Int32} {S : Nat → Pr} {b : Nat} (hS : ∀ i, i ≤ 40 → GP i (S i)) (hT : RdM V0 e b (d_M_product_B T d) S) : ∀ (g i n : Nat) (f : Ev → Int32) (l : List Int32) (V : ai_V), 40 ≤ i + g → i ≤ 40 → b ≤ i → g < n → gi V 89 18 = on i → gi V 89 19 = -1 → Fr wP V0 V →
    MO V0 e (d_M_sum_6 T n d (f e) V) (rpL c qS S g i f l) := by
  intro g
  induction g with
  | zero =>
    intro i n f l V hg hi hb hn h1 h2 hF
    obtain ⟨n, rfl⟩ : ∃ n', n = n' + 1 := ⟨n - 1, by omega⟩
    rw [d_M_sum_6, fine_y h2, bd_some, if_neg (by decide), hH V i hF h1 hi, bd_some, hc.1 i (by omega), if_neg (by decide), bd_some, if_pos (by decide), rpL]
    exact ⟨V, rfl, h1, h2, hF⟩
  | succ g ih =>
    intro i n f l V hg hi hb hn h1 h2 hF
    obtain ⟨n, rfl⟩ : ∃ n', n = n' + 1 := ⟨n - 1, by omega⟩
    have hh := hH V i hF h1 hi
    rw [rpL]
    by_cases eq : qS (c i) = true
    · have step : d_M_sum_6 T (n + 1) d (f e) V = d_M_sum_31 T (d_M_sum_6 T n) d (f e) V := by
        rw [d_M_sum_6, fine_y h2, bd_some, if_neg (by decide), hh, bd_some]
        rcases qS_o eq with e | e
        · rw [if_pos e]
        · rw [if_neg (by rw [e]; decide), bd_some, if_neg (fun hn => hn e)]
      have ho : opo (c i) := by rcases qS_o eq with h | h <;> simp [opo, h]
      have h40 := hc.lt (opo_m ho)
      rw [if_pos eq, step, d_M_sum_31, hh, bd_some]
      have h := hT _ (i + 1) (by omega) (by omega) (go8 hF) (go_18 V (on (i + 1))) (go_19 h2 _)
      have hgg := hS (i + 1) (by omega)
      generalize S (i + 1) = r at h hgg
      rcases r with p | ⟨j, f2, l2⟩
      · obtain ⟨v, V2, e2, a1, F2⟩ := h
        have hp := hgg.2
        obtain ⟨n, rfl⟩ : ∃ n', n = n' + 1 := ⟨n - 1, by omega⟩
        have out : ∀ w, d_M_sum_6 T (n + 1) d w V2 = some (w, V2) := by
          intro w
          rw [d_M_sum_6, fine_n a1 (by omega), bd_some, if_pos rfl]
        show MO V0 e _ (.inl p)
        rcases qS_o eq with ec | ec
        · rw [if_neg (fun hn => hn ec), d_M_sum_45, h1, on_s, e2, bd_some, if_neg (by decide), d_M_sum_78, out]
          exact ⟨_, V2, rfl, a1, F2⟩
        · rw [if_pos (by rw [ec]; decide), d_M_sum_45, h1, on_s, e2, bd_some, if_pos rfl]
          rw [d_M_sum_78, out]
          exact ⟨_, V2, rfl, a1, F2⟩
      · obtain ⟨V2, e2, a1, a2, F2⟩ := h
        obtain ⟨g1, g2, g3, g4, g5⟩ := hgg
        have nx := ih j n (fun e => opf (c i) (f e) (f2 e)) (l ++ l2 ++ [2000 + c i]) V2 (by omega) g3 (by omega) (by omega) a1 a2 F2
        show MO V0 e _ (rpL c qS S g j (fun e => opf (c i) (f e) (f2 e)) (l ++ l2 ++ [2000 + c i]))
        rcases qS_o eq with ec | ec
        · rw [if_neg (fun hn => hn ec), d_M_sum_45, h1, on_s, e2, bd_some, if_neg (by decide), d_M_sum_78]
          have ev : opf (c i) (f e) (f2 e) = f e + f2 e := by rw [ec]; rfl
          simp only [ev] at nx
          exact nx
        · rw [if_pos (by rw [ec]; decide), d_M_sum_45, h1, on_s, e2, bd_some, if_pos rfl]
          rw [d_M_sum_78]
          have ew : opf (c i) (f e) (f2 e) = f e - f2 e := by rw [ec]; rfl
          simp only [ew] at nx
          exact nx
    · rw [if_neg eq]
      have : d_M_sum_6 T (n + 1) d (f e) V = some (f e, V) := by
        rw [d_M_sum_6, fine_y h2, bd_some, if_neg (by decide), hh, bd_some, if_neg (fun h => eq (by simp [qS, h])), bd_some, if_pos (fun h => eq (by simp [qS, h]))]
      rw [this]
      exact ⟨V, rfl, h1, h2, hF⟩
theorem M_sum' {V0 : ai_V} {e : Ev} {c : Nat → Int32} (hc : KH c) (hH : HM V0 c) {T : Int32 → ai_V → Option (Int32 × ai_V)} {d : Int32} {S : Nat → Pr} {b : Nat} (hS : ∀ i, i ≤ 40 → GP i (S i)) (hT : RdM V0 e b (d_M_product_B T d) S) : RdM V0 e b (d_M_sum_B T d) (fun i => rpB (S i) (rpL c qS S 40)) := by
  intro V i hb hi hF h1 h2
  have h := hT V i hb hi hF h1 h2
  have hg := hS i hi
  rw [d_M_sum_B]
  simp only []
  generalize S i = r at h hg
  rcases r with p | ⟨j, f, l⟩
  · obtain ⟨v, V2, e2, a1, F2⟩ := h
    have hp := hg.2
    rw [e2, bd_some]
    have : d_M_sum_6 T (19999 + 1) d v V2 = some (v, V2) := by
      rw [d_M_sum_6, fine_n a1 (by omega), bd_some, if_pos rfl]
    show MO V0 e (d_M_sum_6 T (19999 + 1) d v V2) (.inl p)
    rw [this]
    exact ⟨v, V2, rfl, a1, F2⟩
  · obtain ⟨V2, e2, a1, a2, F2⟩ := h
    obtain ⟨g1, g2, g3, g4, g5⟩ := hg
    rw [e2, bd_some]
    exact M_sum hc hH hS hT 40 j ai_N f l V2 (by omega) g3 (by omega) (N_gt (by omega)) a1 a2 F2
theorem M_held {V0 : ai_V} {e : Ev} {c : Nat → Int32} (hc : KH c) (hH : HM V0 c) {T : Int32 → ai_V → Option (Int32 × ai_V)} {d : Int32} {P : Nat → Pr} {b : Nat} (hP : ∀ i, i ≤ 40 → GP i (P i)) (hT : RdM V0 e b (T d) (rpN c P)) : RdM V0 e b (d_M_held_B T d) (rpE c P) := by
  have hPr : RdM V0 e b (d_M_product_B T d) (rpP c P) := M_product' hc hH (fun i hi => rpN_good hc hP hi) hT
  have hS : RdM V0 e b (d_M_sum_B T d) (rpS c P) := M_sum' hc hH (fun i hi => rpP_good hc hP hi) hPr
  intro V i hb hi hF h1 h2
  have h := hS V i hb hi hF h1 h2
  have hg := rpS_good hc hP hi
  rw [d_M_held_B, rpE]
  generalize rpS c P i = r at h hg
  rcases r with p | ⟨j, f, l⟩
  · obtain ⟨v, V2, e2, a1, F2⟩ := h
    have hp := hg.2
    rw [e2, bd_some, passes_f a1 (by omega), bd_some, if_pos rfl, passes_f a1 (by omega), bd_some, if_pos rfl, passes_f a1 (by omega), bd_some, if_pos rfl]
    exact ⟨v, V2, rfl, a1, F2⟩
  · obtain ⟨V2, e2, a1, a2, F2⟩ := h
    obtain ⟨w1, w2, w3, w4, w5⟩ := hg
    rw [e2, bd_some]
    show MO V0 e _ (if qE (c j) = true then rpB (rpS c P (j + 1)) (fun k f2 l2 => .inr (k, fun e => opf (c j) (f e) (f2 e), l ++ l2 ++ [2000 + c j])) else .inr (j, f, l))
    by_cases eq : qE (c j) = true
    · have ho : opo (c j) := by rcases qE_o eq with h | h | h <;> simp [opo, h]
      have h40 := hc.lt (opo_m ho)
      rw [if_pos eq]
      have h := hS _ (j + 1) (by omega) (by omega) (go8 F2) (go_18 V2 (on (j + 1))) (go_19 a2 _)
      generalize rpS c P (j + 1) = r at h
      rcases qE_o eq with ec | ec | ec
      · rw [ps_y hH F2 a1 a2 w3 ec, bd_some, if_neg (show ¬ (1 : Int32) = 0 by decide)]
        rcases r with p | ⟨k, f2, l2⟩
        · obtain ⟨v, V3, e3, b1, F3⟩ := h
          rw [e3, bd_some]
          show MO V0 e _ (.inl p)
          by_cases ev : v ≤ f e
          · rw [if_pos ev]; exact ⟨_, V3, rfl, b1, F3⟩
          · rw [if_neg ev]; exact ⟨_, V3, rfl, b1, F3⟩
        · obtain ⟨V3, e3, b1, b2, F3⟩ := h
          rw [e3, bd_some]
          show MO V0 e _ (.inr (k, fun e => opf (c j) (f e) (f2 e), l ++ l2 ++ [2000 + c j]))
          have ew : opf (c j) (f e) (f2 e) = if f2 e ≤ f e then 0 else 1 := by rw [ec]; rfl
          refine ⟨V3, ?_, b1, b2, F3⟩
          simp only [ew]
          by_cases ev : f2 e ≤ f e
          · rw [if_pos ev, if_pos ev]
          · rw [if_neg ev, if_neg ev]
      · rw [ps_n hH F2 a1 a2 w3 (by rw [ec]; decide), bd_some, if_pos rfl, ps_y hH F2 a1 a2 w3 ec, bd_some, if_neg (show ¬ (1 : Int32) = 0 by decide)]
        rcases r with p | ⟨k, f2, l2⟩
        · obtain ⟨v, V3, e3, b1, F3⟩ := h
          rw [e3, bd_some]
          show MO V0 e _ (.inl p)
          by_cases ev : f e ≤ v
          · rw [if_pos ev]; exact ⟨_, V3, rfl, b1, F3⟩
          · rw [if_neg ev]; exact ⟨_, V3, rfl, b1, F3⟩
        · obtain ⟨V3, e3, b1, b2, F3⟩ := h
          rw [e3, bd_some]
          show MO V0 e _ (.inr (k, fun e => opf (c j) (f e) (f2 e), l ++ l2 ++ [2000 + c j]))
          have ew : opf (c j) (f e) (f2 e) = if f e ≤ f2 e then 0 else 1 := by rw [ec]; rfl
          refine ⟨V3, ?_, b1, b2, F3⟩
          simp only [ew]
          by_cases ev : f e ≤ f2 e
          · rw [if_pos ev, if_pos ev]
          · rw [if_neg ev, if_neg ev]
      · rw [ps_n hH F2 a1 a2 w3 (by rw [ec]; decide), bd_some, if_pos rfl, ps_n hH F2 a1 a2 w3 (by rw [ec]; decide), bd_some, if_pos rfl, ps_y hH F2 a1 a2 w3 ec, bd_some, if_neg (show ¬ (1 : Int32) = 0 by decide)]
        rcases r with p | ⟨k, f2, l2⟩
        · obtain ⟨v, V3, e3, b1, F3⟩ := h
          rw [e3, bd_some]
          show MO V0 e _ (.inl p)
          by_cases ev : f e = v
          · rw [if_neg (fun hn => hn ev)]; exact ⟨_, V3, rfl, b1, F3⟩
          · rw [if_pos ev]; exact ⟨_, V3, rfl, b1, F3⟩
        · obtain ⟨V3, e3, b1, b2, F3⟩ := h
          rw [e3, bd_some]
          show MO V0 e _ (.inr (k, fun e => opf (c j) (f e) (f2 e), l ++ l2 ++ [2000 + c j]))
          have ew : opf (c j) (f e) (f2 e) = if f e = f2 e then 1 else 0 := by rw [ec]; rfl
          refine ⟨V3, ?_, b1, b2, F3⟩
          simp only [ew]
          by_cases ev : f e = f2 e
          · rw [if_neg (fun hn => hn ev), if_pos ev]
          · rw [if_pos ev, if_neg ev]
    · rw [if_neg eq, ps_n hH F2 a1 a2 w3 (fun h => eq (by simp [qE, h])), bd_some, if_pos rfl, ps_n hH F2 a1 a2 w3 (fun h => eq (by simp [qE, h])), bd_some, if_pos rfl, ps_n hH F2 a1 a2 w3 (fun h => eq (by simp [qE, h])), bd_some, if_pos rfl]
      exact ⟨V2, rfl, a1, a2, F2⟩
theorem M_num {V0 : ai_V} {c : Nat → Int32} (hc : KH c) (hH : HM V0 c) (hD : HD V0 c) {T : Int32 → ai_V → Option (Int32 × ai_V)} : ∀ (g i x v n : Nat) (V : ai_V), x + g = 3 → g < n → i ≤ 40 → gi V 89 18 = on i → gi V 89 19 = -1 → Fr wP V0 V →
    ∃ V', d_M_thing_83 T n (on v) (on x) V = some (on (nmb c g i v).2, V') ∧ gi V' 89 18 = on (nmb c g i v).1 ∧ gi V' 89 19 = -1 ∧ Fr wP V0 V' := by
  intro g
  induction g with
  | zero =>
    intro i x v n V hx hn hi h1 h2 hF
    obtain ⟨n, rfl⟩ : ∃ n', n = n' + 1 := ⟨n - 1, by omega⟩
    refine ⟨V, ?_, h1, h2, hF⟩
    rw [d_M_thing_83, show (3 : Int32) = on 3 from rfl, if_pos (by rw [on_le (by omega) (by omega)]; omega)]; rfl
  | succ g ih =>
    intro i x v n V hx hn hi h1 h2 hF
    obtain ⟨n, rfl⟩ : ∃ n', n = n' + 1 := ⟨n - 1, by omega⟩
    have hh := hH V i hF h1 hi
    rw [d_M_thing_83, show (3 : Int32) = on 3 from rfl, if_neg (by rw [on_le (by omega) (by omega)]; omega), hh, bd_some, in_eq, bd_some, nmb]
    by_cases e : btw (c i) 48 57
    · obtain ⟨b, b1, b2, b3⟩ := btw_on e
      have h40 := hc.lt (show ¬ c i = -1 by rw [b3]; exact on_ne_m1 (by omega))
      obtain ⟨V', e3, k3, k4, F3⟩ := ih (i + 1) (x + 1) (10 * v + (c i - 48).toNatClampNeg) n _ (by omega) (by omega) (by omega) (go_18 V (on (i + 1))) (go_19 h2 _) (go8 hF)
      have ev : 10 * on v + (c i - 48) = on (10 * v + (c i - 48).toNatClampNeg) := by
        rw [b3, dg_on b1 b2, show (10 : Int32) = on 10 from rfl, on_mul, show (48 : Int32) = on 48 from rfl, on_sub (by omega), on_add]
      rw [if_neg (by rw [tf_pos e]; decide), hD V i hF h1 h2 e h40, bd_some, if_pos e, on_s]
      simp only [ev]
      rw [e3]
      exact ⟨V', rfl, k3, k4, F3⟩
    · rw [if_pos (tf_neg e), if_neg e]
      exact ⟨V, rfl, h1, h2, hF⟩
theorem M_v {V0 : ai_V} {e : Ev} {c : Nat → Int32} (hE : HV V0 c e) {T : Int32 → ai_V → Option (Int32 × ai_V)} {V : ai_V} {i : Nat} (h1 : gi V 89 18 = on i) (h2 : gi V 89 19 = -1) (hF : Fr wP V0 V) (hd : ¬ btw (c i) 48 57) : MO V0 e (d_M_thing_67 T (c i) V) (rpV c i) := by
  rw [d_M_thing_67, in_eq, bd_some, if_pos (tf_neg hd), rpV]
  by_cases ev : vIx (c i) < 7
  · rw [if_pos ev]
    have h := hE T V i hF h1 ev
    have : (if c i = 116 then (d_M_thing_176 T (c i) V) else (if c i = 112 then (d_M_thing_176 T (c i) V) else (if c i = 119 then (d_M_thing_176 T (c i) V) else (if c i = 108 then (d_M_thing_176 T (c i) V) else (if c i = 110 then (d_M_thing_176 T (c i) V) else (if c i = 113 then (d_M_thing_176 T (c i) V) else (if c i = 121 then (d_M_thing_176 T (c i) V) else ((d_M_fault (gi V 89 18) V).bind fun q6 => (some ((0 : Int32), q6)))))))))) = d_M_thing_176 T (c i) V := by
      rw [vIx] at ev
      by_cases g1 : c i = 116
      · rw [if_pos g1]
      rw [if_neg g1] at ev ⊢
      by_cases g1 : c i = 112
      · rw [if_pos g1]
      rw [if_neg g1] at ev ⊢
      by_cases g1 : c i = 119
      · rw [if_pos g1]
      rw [if_neg g1] at ev ⊢
      by_cases g1 : c i = 108
      · rw [if_pos g1]
      rw [if_neg g1] at ev ⊢
      by_cases g1 : c i = 110
      · rw [if_pos g1]
      rw [if_neg g1] at ev ⊢
      by_cases g1 : c i = 113
      · rw [if_pos g1]
      rw [if_neg g1] at ev ⊢
      by_cases g1 : c i = 121
      · rw [if_pos g1]
      rw [if_neg g1] at ev
      exact absurd ev (by omega)
    rw [this, h]
    exact ⟨_, rfl, go_18 V _, go_19 h2 _, (go8 hF)⟩
  · rw [if_neg ev]
    have hn : ∀ x : Int32, vIx x < 7 → ¬ c i = x := fun x hx hc => ev (by rw [hc]; exact hx)
    rw [if_neg (hn 116 (by decide)), if_neg (hn 112 (by decide)), if_neg (hn 119 (by decide)), if_neg (hn 108 (by decide)), if_neg (hn 110 (by decide)), if_neg (hn 113 (by decide)), if_neg (hn 121 (by decide)), fault_y h2, bd_some, h1]
    exact ⟨0, _, rfl, by rw [gi_si, if_pos ⟨rfl, rfl⟩], (go9 hF)⟩
theorem rpN_plain {c : Nat → Int32} {P : Nat → Pr} {i : Nat} (h : ¬ c i = 45) : rpN c P i = P i := by
  have : mns c 40 i = 0 := by rw [mns, if_neg h]
  rw [rpN, this, Nat.add_zero]
  generalize P i = r
  rcases r with p | ⟨j, f, l⟩
  · rfl
  · rfl
theorem rpN_minus {c : Nat → Int32} (hc : KH c) {P : Nat → Pr} {i : Nat} (h : c i = 45) : (∃ p, rpN c P (i + 1) = .inl p ∧ rpN c P i = .inl p) ∨ ∃ j f l f' l', rpN c P (i + 1) = .inr (j, f, l) ∧ rpN c P i = .inr (j, f', l') ∧ ∀ e, f' e = -(f e) := by
  have hm : mns c 40 i = mns c 40 (i + 1) + 1 := by
    have e1 : mns c 40 i = mns c 39 (i + 1) + 1 := by rw [mns, if_pos h]
    rw [e1, mns_s hc 39 (i + 1) (by omega)]
  rw [rpN, rpN, hm, show i + (mns c 40 (i + 1) + 1) = i + 1 + mns c 40 (i + 1) by omega]
  generalize mns c 40 (i + 1) = m
  generalize P (i + 1 + m) = r
  rcases r with p | ⟨j, f, l⟩
  · exact Or.inl ⟨p, rfl, rfl⟩
  · refine Or.inr ?_
    rcases Nat.mod_two_eq_zero_or_one m with hb | hb
    · refine ⟨j, f, l, fun e => -(f e), l ++ [2126], ?_, ?_, fun e => rfl⟩
      · show (if m % 2 = 1 then _ else _) = _
        rw [if_neg (by omega)]
      · show (if (m + 1) % 2 = 1 then _ else _) = _
        rw [if_pos (by omega)]
    · refine ⟨j, fun e => -(f e), l ++ [2126], f, l, ?_, ?_, fun e => (Int32.neg_neg).symm⟩
      · show (if m % 2 = 1 then _ else _) = _
        rw [if_pos (by omega)]
      · show (if (m + 1) % 2 = 1 then _ else _) = _
        rw [if_neg (by omega)]
theorem M_thing {V0 : ai_V} {e : Ev} {c : Nat → Int32} (hc : KH c) (hH : HM V0 c) (hD : HD V0 c) (hE : HV V0 c e) : ∀ (fu k d : Nat), d + k = 4 → RdM V0 e (41 - fu) (d_M_thing_R fu (on d)) (rpN c (rpT c k)) := by
  intro fu
  induction fu with
  | zero => intro k d _ V i hb hi; omega
  | succ fu ih =>
    intro k d hd V i hb hi hF h1 h2
    rw [d_M_thing_R, d_M_thing_B]
    by_cases e45 : c i = 45
    · have h40 := hc.lt (show ¬ c i = -1 by rw [e45]; decide)
      have h := ih k d hd _ (i + 1) (by omega) (by omega) (go8 hF) (go_18 V (on (i + 1))) (go_19 h2 _)
      rw [ps_y hH hF h1 h2 hi e45, bd_some, if_neg (show ¬ (1 : Int32) = 0 by decide)]
      rcases rpN_minus hc (P := rpT c k) e45 with ⟨p, q1, q2⟩ | ⟨j, f, l, f', l', q1, q2, q3⟩
      · rw [q1] at h
        rw [q2]
        obtain ⟨v, V3, e3, b1, F3⟩ := h
        rw [e3, bd_some]
        exact ⟨_, V3, rfl, b1, F3⟩
      · rw [q1] at h
        rw [q2]
        obtain ⟨V3, e3, b1, b2, F3⟩ := h
        rw [e3, bd_some]
        refine ⟨V3, ?_, b1, b2, F3⟩
        rw [q3 e]
    · rw [rpN_plain e45, ps_n hH hF h1 h2 hi e45, bd_some, if_pos rfl, fine_y h2, bd_some, if_pos (by decide), hH V i hF h1 hi, bd_some]
      have dig : btw (c i) 48 57 → MO V0 e (d_M_thing_67 (d_M_thing_R fu) (c i) V) (rpD c i) := by
        intro hd
        obtain ⟨V3, e3, b1, b2, F3⟩ := M_num hc hH hD (T := d_M_thing_R fu) 3 i 0 0 ai_N V (by omega) (N_gt (by omega)) hi h1 h2 hF
        rw [d_M_thing_67, in_eq, bd_some, if_neg (by rw [tf_pos hd]; decide)]
        exact ⟨V3, e3, b1, b2, F3⟩
      rcases k with _ | k
      · have e67 : (if ¬ c i = 40 then d_M_thing_67 (d_M_thing_R fu) (c i) V else (if (4 : Int32) ≤ on d then d_M_thing_67 (d_M_thing_R fu) (c i) V else ((d_M_held_B (d_M_thing_R fu) (on d + (1 : Int32)) (si V 89 18 ((gi V 89 18) + (1 : Int32)))).bind fun q10 => ((d_M_need (41 : Int32) q10.2).bind fun q11 => (some (q10.1, q11)))))) = d_M_thing_67 (d_M_thing_R fu) (c i) V := by
          by_cases e2 : c i = 40
          · rw [if_neg (fun h => h e2), show (4 : Int32) = on 4 from rfl, if_pos (by rw [on_le (by omega) (by omega)]; omega)]
          · rw [if_pos e2]
        rw [e67, rpT]
        by_cases hd : btw (c i) 48 57
        · rw [if_pos hd]; exact dig hd
        · rw [if_neg hd]; exact M_v hE h1 h2 hF hd
      · rw [rpT]
        by_cases e2 : c i = 40
        · have h40 := hc.lt (show ¬ c i = -1 by rw [e2]; decide)
          have hh := M_held hc hH (rpT_good hc k) (ih k (d + 1) (by omega))
          have h := hh _ (i + 1) (by omega) (by omega) (go8 hF) (go_18 V (on (i + 1))) (go_19 h2 _)
          have hg := rpE_good hc (rpT_good hc k) (i := i + 1) (by omega)
          rw [if_neg (fun h => h e2), show (4 : Int32) = on 4 from rfl, if_neg (by rw [on_le (by omega) (by omega)]; omega), if_neg (by rw [e2]; decide), if_pos e2, h1, on_s, on_s]
          generalize rpE c (rpT c k) (i + 1) = r at h hg
          rcases r with p | ⟨j, f, l⟩
          · obtain ⟨v, V3, e3, b1, F3⟩ := h
            have hp := hg.2
            rw [e3, bd_some, need_f b1 (by omega), bd_some]
            exact ⟨v, V3, rfl, b1, F3⟩
          · obtain ⟨V3, e3, b1, b2, F3⟩ := h
            obtain ⟨g1, g2, g3, g4, g5⟩ := hg
            rw [e3, bd_some, d_M_need]
            show MO V0 e _ (if c j = 41 then .inr (j + 1, f, l) else .inl j)
            by_cases e3 : c j = 41
            · rw [ps_y hH F3 b1 b2 g3 e3, bd_some, if_pos (show ¬ (1 : Int32) = 0 by decide), bd_some, if_pos e3]
              exact ⟨_, rfl, go_18 V3 _, go_19 b2 _, (go8 F3)⟩
            · rw [ps_n hH F3 b1 b2 g3 e3, bd_some, if_neg (fun h => h rfl), fault_y b2, bd_some, bd_some, if_neg e3, b1]
              exact ⟨_, _, rfl, by rw [gi_si, if_pos ⟨rfl, rfl⟩], (go9 F3)⟩
        · rw [if_pos e2, if_neg e2]
          by_cases hd : btw (c i) 48 57
          · rw [if_pos hd]; exact dig hd
          · rw [if_neg hd]; exact M_v hE h1 h2 hF hd
