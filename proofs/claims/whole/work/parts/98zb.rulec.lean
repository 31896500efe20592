/-! ===== rule: the class reads ===== -/
def wK : Fw := ([(10, 6), (10, 7)], [14])
def kC (V : ai_V) (i : Nat) (l : List Int32) : Prop := gi V 10 7 = on i ∧ gi V 10 6 = on l.length ∧ ∀ q, q < l.length → ga V 14 q = l.getD q 0
def CK (V0 : ai_V) (pre : List Int32) (o : Option (Int32 × ai_V)) (r : Pr) : Prop := match r with
  | .inl p => ∃ V', o = some (0, V') ∧ gi V' 10 7 = on p ∧ (∃ q, q ≤ 40 ∧ gi V' 10 6 = on q) ∧ Fr wK V0 V'
  | .inr (j, _, l) => ∃ V', o = some (1, V') ∧ kC V' j (pre ++ l) ∧ Fr wK V0 V'
def HC (V0 : ai_V) (c : Nat → Int32) : Prop := ∀ V i, Fr wK V0 V → gi V 10 7 = on i → i ≤ 40 → d_Rule_here V = some (c i)
theorem getD_sn (r : List Int32) (x : Int32) (i : Nat) (hi : i < r.length + 1) : (r ++ [x]).getD i 0 = if i = r.length then x else r.getD i 0 := by
  by_cases e : i = r.length
  · subst e; simp [List.getD]
  · rw [if_neg e]
    have : i < r.length := by omega
    simp [List.getD, List.getElem?_append_left this]
theorem emit_y {V0 V : ai_V} {i : Nat} {l : List Int32} (h : kC V i l) (hl : l.length < 40) (F : Fr wK V0 V) (x : Int32) : ∃ V', d_Rule_emit x V = some V' ∧ kC V' i (l ++ [x]) ∧ Fr wK V0 V' := by
  obtain ⟨h1, h2, h3⟩ := h
  rw [d_Rule_emit, h2, show Int32.ofNat 40 = on 40 from rfl, if_neg (by rw [on_le (by omega) (by omega)]; omega), if_pos (by rw [on_in (by omega)]; omega), on_nn (by omega), gi_sa, h2, on_s]
  refine ⟨_, rfl, ⟨?_, ?_, ?_⟩, Fr.si (Fr.sa F rfl) rfl⟩
  · rw [gi_si, if_neg (by decide), gi_sa]; exact h1
  · rw [gi_si, if_pos ⟨rfl, rfl⟩]; simp
  · intro q hq
    rw [List.length_append, List.length_singleton] at hq
    rw [ga_si, ga_sa, getD_sn _ _ _ hq]
    by_cases e : q = l.length
    · rw [if_pos ⟨rfl, e⟩, if_pos e]
    · rw [if_neg (fun hc => e hc.2), if_neg e]; exact h3 q (by omega)
theorem emit_a {V0 V : ai_V} {q : Nat} (h : gi V 10 6 = on q) (hq : q ≤ 40) (F : Fr wK V0 V) (x : Int32) : ∃ V', d_Rule_emit x V = some V' ∧ gi V' 10 7 = gi V 10 7 ∧ (∃ q, q ≤ 40 ∧ gi V' 10 6 = on q) ∧ Fr wK V0 V' := by
  rw [d_Rule_emit, h, show Int32.ofNat 40 = on 40 from rfl]
  by_cases e : 40 ≤ q
  · rw [if_pos (by rw [on_le (by omega) (by omega)]; exact e)]
    exact ⟨V, rfl, rfl, ⟨q, hq, h⟩, F⟩
  · rw [if_neg (by rw [on_le (by omega) (by omega)]; exact e), if_pos (by rw [on_in (by omega)]; omega), gi_sa, h, on_s]
    refine ⟨_, rfl, ?_, ⟨q + 1, by omega, ?_⟩, Fr.si (Fr.sa F rfl) rfl⟩
    · rw [gi_si, if_neg (by decide), gi_sa]
    · rw [gi_si, if_pos ⟨rfl, rfl⟩]
theorem kC_go {V : ai_V} {i : Nat} {l : List Int32} (h : kC V i l) : kC (si V 10 7 (gi V 10 7 + 1)) (i + 1) l := by
  obtain ⟨h1, h2, h3⟩ := h
  refine ⟨by rw [gi_si, if_pos ⟨rfl, rfl⟩, h1, on_s], by rw [gi_si, if_neg (by decide)]; exact h2, fun q hq => by rw [ga_si]; exact h3 q hq⟩
theorem go7 {V0 V : ai_V} {x : Int32} (F : Fr wK V0 V) : Fr wK V0 (si V 10 7 x) := Fr.si F rfl
/-- what a part of the class's reader does -/
def RdC (V0 : ai_V) (D : ai_V → Option (Int32 × ai_V)) (P : Nat → Pr) : Prop := ∀ V i pre, kC V i pre → pre.length ≤ i → i ≤ 40 → Fr wK V0 V → CK V0 pre (D V) (P i)
theorem C_mns {V0 : ai_V} {c : Nat → Int32} (hc : KH c) (hH : HC V0 c) {T : Int32 → ai_V → Option (Int32 × ai_V)} {d : Int32} {pre : List Int32} : ∀ (g i x b n : Nat) (V : ai_V), x + g = 40 → g < n → i ≤ 40 → kC V i pre → Fr wK V0 V →
    ∃ V', d_Rule_negated_4 T n d (on (b % 2)) (on x) V = d_Rule_negated_45 T d (on ((b + mns c g i) % 2)) V' ∧ kC V' (i + mns c g i) pre ∧ Fr wK V0 V' := by
  intro g
  induction g with
  | zero =>
    intro i x b n V hx hn hi hk hF
    obtain ⟨n, rfl⟩ : ∃ n', n = n' + 1 := ⟨n - 1, by omega⟩
    refine ⟨V, ?_, hk, hF⟩
    rw [d_Rule_negated_4, show (40 : Int32) = on 40 from rfl, if_pos (by rw [on_le (by omega) (by omega)]; omega)]; rfl
  | succ g ih =>
    intro i x b n V hx hn hi hk hF
    obtain ⟨n, rfl⟩ : ∃ n', n = n' + 1 := ⟨n - 1, by omega⟩
    rw [d_Rule_negated_4, show (40 : Int32) = on 40 from rfl, if_neg (by rw [on_le (by omega) (by omega)]; omega), hH V i hF hk.1 hi, bd_some, mns]
    by_cases e : c i = 45
    · have h40 := hc.lt (show ¬ c i = -1 by rw [e]; decide)
      rw [if_neg (fun hn => hn e), if_pos e]
      have e2 : (if ¬ on (b % 2) = 0 then d_Rule_negated_38 T (d_Rule_negated_4 T n) d (on x) 0 (si V 10 7 (gi V 10 7 + 1)) else d_Rule_negated_38 T (d_Rule_negated_4 T n) d (on x) 1 (si V 10 7 (gi V 10 7 + 1))) = d_Rule_negated_4 T n d (on ((b + 1) % 2)) (on (x + 1)) (si V 10 7 (gi V 10 7 + 1)) := by
        rcases Nat.mod_two_eq_zero_or_one b with hb | hb
        · rw [hb, if_neg (fun hn => hn rfl), show (b + 1) % 2 = 1 by omega, d_Rule_negated_38, on_s]; rfl
        · rw [hb, if_pos (show ¬ on 1 = 0 by decide), show (b + 1) % 2 = 0 by omega, d_Rule_negated_38, on_s]; rfl
      rw [e2]
      obtain ⟨V', e3, k3, F3⟩ := ih (i + 1) (x + 1) (b + 1) n _ (by omega) (by omega) (by omega) (kC_go hk) (go7 hF)
      rw [e3]
      refine ⟨V', ?_, ?_, F3⟩
      · rw [show b + 1 + mns c g (i + 1) = b + (mns c g (i + 1) + 1) by omega]
      · rw [show i + (mns c g (i + 1) + 1) = i + 1 + mns c g (i + 1) by omega]; exact k3
    · rw [if_pos e, if_neg e]
      exact ⟨V, rfl, hk, hF⟩
theorem C_neg {V0 : ai_V} {c : Nat → Int32} (hc : KH c) (hH : HC V0 c) {T : Int32 → ai_V → Option (Int32 × ai_V)} {d : Int32} {P : Nat → Pr} (hP : ∀ i, i ≤ 40 → GP i (P i)) (hT : RdC V0 (T d) P) : RdC V0 (d_Rule_negated_B T d) (rpN c P) := by
  intro V i pre hk hl hi hF
  obtain ⟨V1, e1, k1, F1⟩ := C_mns hc hH (T := T) (d := d) (pre := pre) 40 i 0 0 ai_N V (by omega) (N_gt (by omega)) hi hk hF
  have e1' : d_Rule_negated_B T d V = d_Rule_negated_45 T d (on (mns c 40 i % 2)) V1 := by
    rw [d_Rule_negated_B, ← Nat.zero_add (mns c 40 i)]; exact e1
  have hm := mns_le hc 40 i hi
  have h := hT V1 (i + mns c 40 i) pre k1 (by omega) hm F1
  have hg := hP (i + mns c 40 i) hm
  rw [e1', d_Rule_negated_45, rpN]
  generalize hmm : mns c 40 i = m at *
  generalize P (i + m) = r at h hg
  rcases r with p | ⟨j, f, l⟩
  · obtain ⟨V2, e2, a1, ⟨q, q1, q2⟩, F2⟩ := h
    rw [e2, bd_some]
    show CK V0 pre _ (.inl p)
    rcases Nat.mod_two_eq_zero_or_one m with hb | hb
    · rw [hb, if_pos (show on 0 = 0 from rfl), if_pos (Or.inl rfl)]
      exact ⟨V2, rfl, a1, ⟨q, q1, q2⟩, F2⟩
    · obtain ⟨V3, e3, a3, b3, F3⟩ := emit_a q2 q1 F2 2126
      rw [hb, if_neg (show ¬ on 1 = 0 by decide), e3, bd_some, if_pos (Or.inl rfl)]
      exact ⟨V3, rfl, by rw [a3]; exact a1, b3, F3⟩
  · obtain ⟨V2, e2, k2, F2⟩ := h
    obtain ⟨g1, g2, g3, g4, g5⟩ := hg
    rw [e2, bd_some]
    show CK V0 pre _ (if m % 2 = 1 then .inr (j, fun e => -(f e), l ++ [2126]) else .inr (j, f, l))
    rcases Nat.mod_two_eq_zero_or_one m with hb | hb
    · rw [hb, if_pos (show on 0 = 0 from rfl), if_pos (Or.inr rfl), if_neg (by decide)]
      exact ⟨V2, rfl, k2, F2⟩
    · obtain ⟨V3, e3, k3, F3⟩ := emit_y k2 (by rw [List.length_append]; omega) F2 2126
      rw [hb, if_neg (show ¬ on 1 = 0 by decide), e3, bd_some, if_pos (Or.inr rfl), if_pos rfl]
      exact ⟨V3, rfl, by rw [← List.append_assoc]; exact k3, F3⟩
theorem CK_out {V0 : ai_V} {pre : List Int32} {V : ai_V} {p : Nat} (h1 : gi V 10 7 = on p) (h2 : ∃ q, q ≤ 40 ∧ gi V 10 6 = on q) (F : Fr wK V0 V) : CK V0 pre (some (0, V)) (.inl p) := ⟨V, rfl, h1, h2, F⟩
theorem C_product {V0 : ai_V} {c : Nat → Int32} (hc : KH c) (hH : HC V0 c) {T : Int32 → ai_V → Option (Int32 × ai_V)} {d : Int32} {S : Nat → Pr} (hS : ∀ i, i ≤ 40 → GP i (S i)) (hT : RdC V0 (d_Rule_negated_B T d) S) {pre : List Int32} {b : Nat} (hb : pre.length ≤ b) : ∀ (g i x n : Nat) (f : Ev → Int32) (l : List Int32) (V : ai_V), x + g = 40 → g < n → GP b (.inr (i, f, l)) → kC V i (pre ++ l) → Fr wK V0 V →
    CK V0 pre (d_Rule_product_8 T n d 1 (on x) V) (rpL c qP S g i f l) := by
  intro g
  induction g with
  | zero =>
    intro i x n f l V hx hn hg hk hF
    obtain ⟨n, rfl⟩ : ∃ n', n = n' + 1 := ⟨n - 1, by omega⟩
    rw [d_Rule_product_8, show (40 : Int32) = on 40 from rfl, if_pos (by rw [on_le (by omega) (by omega)]; omega), if_pos (Or.inr rfl), rpL]
    exact ⟨V, rfl, hk, hF⟩
  | succ g ih =>
    intro i x n f l V hx hn hg hk hF
    obtain ⟨n, rfl⟩ : ∃ n', n = n' + 1 := ⟨n - 1, by omega⟩
    have hh := hH V i hF hk.1 hg.2.2.1
    have step : qP (c i) = true → d_Rule_product_8 T (n + 1) d 1 (on x) V = d_Rule_product_36 T (d_Rule_product_8 T n) d (on x) V := by
      intro hq
      rw [d_Rule_product_8, show (40 : Int32) = on 40 from rfl, if_neg (by rw [on_le (by omega) (by omega)]; omega), if_neg (show ¬ (1 : Int32) = 0 by decide), hh, bd_some]
      rcases qP_o hq with e | e
      · rw [if_pos e]
      · rw [if_neg (by rw [e]; decide), bd_some, if_neg (fun hn => hn e)]
    rw [rpL]
    by_cases e : qP (c i) = true
    · rw [if_pos e, step e, d_Rule_product_36, hh, bd_some]
      have ho : opo (c i) := by rcases qP_o e with h | h <;> simp [opo, h]
      have h40 := hc.lt (opo_m ho)
      have h := hT _ (i + 1) (pre ++ l) (kC_go hk) (by have := hg.1; rw [List.length_append]; omega) (by omega) (go7 hF)
      have hgg := hS (i + 1) (by omega)
      generalize S (i + 1) = r at h hgg
      rcases r with p | ⟨j, f2, l2⟩
      · obtain ⟨V2, e2, a1, ⟨q, q1, q2⟩, F2⟩ := h
        obtain ⟨V3, e3, a3, b3, F3⟩ := emit_a q2 q1 F2 (2000 + c i)
        rw [e2, bd_some, e3, bd_some, on_s]
        obtain ⟨n, rfl⟩ : ∃ n', n = n' + 1 := ⟨n - 1, by omega⟩
        have : d_Rule_product_8 T (n + 1) d 0 (on (x + 1)) V3 = some (0, V3) := by
          rw [d_Rule_product_8, show (40 : Int32) = on 40 from rfl]
          by_cases e4 : on 40 ≤ on (x + 1)
          · rw [if_pos e4, if_pos (Or.inl rfl)]
          · rw [if_neg e4, if_pos rfl, if_pos (Or.inl rfl)]
        show CK V0 pre (d_Rule_product_8 T (n + 1) d 0 (on (x + 1)) V3) (.inl p)
        rw [this]
        exact CK_out (by rw [a3]; exact a1) b3 F3
      · obtain ⟨V2, e2, k2, F2⟩ := h
        obtain ⟨g1, g2, g3, g4, g5⟩ := hgg
        have hg' := hg
        obtain ⟨w1, w2, w3, w4, w5⟩ := hg'
        obtain ⟨V3, e3, k3, F3⟩ := emit_y k2 (by rw [List.length_append, List.length_append]; omega) F2 (2000 + c i)
        rw [e2, bd_some, e3, bd_some, on_s]
        exact ih j (x + 1) n _ _ V3 (by omega) (by omega) (GP_bin hg ⟨g1, g2, g3, g4, g5⟩ ho) (by rw [show pre ++ (l ++ l2 ++ [2000 + c i]) = pre ++ l ++ l2 ++ [2000 + c i] by simp only [List.append_assoc]]; exact k3) F3
    · rw [if_neg e]
      have : d_Rule_product_8 T (n + 1) d 1 (on x) V = some (1, V) := by
        rw [d_Rule_product_8, show (40 : Int32) = on 40 from rfl, if_neg (by rw [on_le (by omega) (by omega)]; omega), if_neg (show ¬ (1 : Int32) = 0 by decide), hh, bd_some, if_neg (fun h => e (by simp [qP, h])), bd_some, if_pos (fun h => e (by simp [qP, h])), if_pos (Or.inr rfl)]
      rw [this]
      exact ⟨V, rfl, hk, hF⟩
theorem C_product' {V0 : ai_V} {c : Nat → Int32} (hc : KH c) (hH : HC V0 c) {T : Int32 → ai_V → Option (Int32 × ai_V)} {d : Int32} {S : Nat → Pr} (hS : ∀ i, i ≤ 40 → GP i (S i)) (hT : RdC V0 (d_Rule_negated_B T d) S) : RdC V0 (d_Rule_product_B T d) (fun i => rpB (S i) (rpL c qP S 40)) := by
  intro V i pre hk hl hi hF
  have h := hT V i pre hk hl hi hF
  have hg := hS i hi
  rw [d_Rule_product_B]
  simp only []
  generalize S i = r at h hg
  rcases r with p | ⟨j, f, l⟩
  · obtain ⟨V2, e2, a1, a2, F2⟩ := h
    rw [e2, bd_some]
    have : d_Rule_product_8 T (19999 + 1) d 0 0 V2 = some (0, V2) := by
      rw [d_Rule_product_8, if_neg (by decide), if_pos rfl, if_pos (Or.inl rfl)]
    show CK V0 pre (d_Rule_product_8 T (19999 + 1) d 0 0 V2) (.inl p)
    rw [this]
    exact CK_out a1 a2 F2
  · obtain ⟨V2, e2, k2, F2⟩ := h
    rw [e2, bd_some]
    exact C_product hc hH hS hT hl 40 j 0 ai_N f l V2 (by omega) (N_gt (by omega)) hg k2 F2
theorem C_sum {V0 : ai_V} {c : Nat → Int32} (hc : KH c) (hH : HC V0 c) {T : Int32 → ai_V → Option (Int32 × ai_V)} {d : Int32} {S : Nat → Pr} (hS : ∀ i, i ≤ 40 → GP i (S i)) (hT : RdC V0 (d_Rule_product_B T d) S) {pre : List Int32} {b : Nat} (hb : pre.length ≤ b) : ∀ (g i x n : Nat) (f : Ev → Int32) (l : List Int32) (V : ai_V), x + g = 40 → g < n → GP b (.inr (i, f, l)) → kC V i (pre ++ l) → Fr wK V0 V →
    CK V0 pre (d_Rule_sum_8 T n d 1 (on x) V) (rpL c qS S g i f l) := by
  intro g
  induction g with
  | zero =>
    intro i x n f l V hx hn hg hk hF
    obtain ⟨n, rfl⟩ : ∃ n', n = n' + 1 := ⟨n - 1, by omega⟩
    rw [d_Rule_sum_8, show (40 : Int32) = on 40 from rfl, if_pos (by rw [on_le (by omega) (by omega)]; omega), if_pos (Or.inr rfl), rpL]
    exact ⟨V, rfl, hk, hF⟩
  | succ g ih =>
    intro i x n f l V hx hn hg hk hF
    obtain ⟨n, rfl⟩ : ∃ n', n = n' + 1 := ⟨n - 1, by omega⟩
    have hh := hH V i hF hk.1 hg.2.2.1
    have step : qS (c i) = true → d_Rule_sum_8 T (n + 1) d 1 (on x) V = d_Rule_sum_36 T (d_Rule_sum_8 T n) d (on x) V := by
      intro hq
      rw [d_Rule_sum_8, show (40 : Int32) = on 40 from rfl, if_neg (by rw [on_le (by omega) (by omega)]; omega), if_neg (show ¬ (1 : Int32) = 0 by decide), hh, bd_some]
      rcases qS_o hq with e | e
      · rw [if_pos e]
      · rw [if_neg (by rw [e]; decide), bd_some, if_neg (fun hn => hn e)]
    rw [rpL]
    by_cases e : qS (c i) = true
    · rw [if_pos e, step e, d_Rule_sum_36, hh, bd_some]
      have ho : opo (c i) := by rcases qS_o e with h | h <;> simp [opo, h]
      have h40 := hc.lt (opo_m ho)
      have h := hT _ (i + 1) (pre ++ l) (kC_go hk) (by have := hg.1; rw [List.length_append]; omega) (by omega) (go7 hF)
      have hgg := hS (i + 1) (by omega)
      generalize S (i + 1) = r at h hgg
      rcases r with p | ⟨j, f2, l2⟩
      · obtain ⟨V2, e2, a1, ⟨q, q1, q2⟩, F2⟩ := h
        obtain ⟨V3, e3, a3, b3, F3⟩ := emit_a q2 q1 F2 (2000 + c i)
        rw [e2, bd_some, e3, bd_some, on_s]
        obtain ⟨n, rfl⟩ : ∃ n', n = n' + 1 := ⟨n - 1, by omega⟩
        have : d_Rule_sum_8 T (n + 1) d 0 (on (x + 1)) V3 = some (0, V3) := by
          rw [d_Rule_sum_8, show (40 : Int32) = on 40 from rfl]
          by_cases e4 : on 40 ≤ on (x + 1)
          · rw [if_pos e4, if_pos (Or.inl rfl)]
          · rw [if_neg e4, if_pos rfl, if_pos (Or.inl rfl)]
        show CK V0 pre (d_Rule_sum_8 T (n + 1) d 0 (on (x + 1)) V3) (.inl p)
        rw [this]
        exact CK_out (by rw [a3]; exact a1) b3 F3
      · obtain ⟨V2, e2, k2, F2⟩ := h
        obtain ⟨g1, g2, g3, g4, g5⟩ := hgg
        have hg' := hg
        obtain ⟨w1, w2, w3, w4, w5⟩ := hg'
        obtain ⟨V3, e3, k3, F3⟩ := emit_y k2 (by rw [List.length_append, List.length_append]; omega) F2 (2000 + c i)
        rw [e2, bd_some, e3, bd_some, on_s]
        exact ih j (x + 1) n _ _ V3 (by omega) (by omega) (GP_bin hg ⟨g1, g2, g3, g4, g5⟩ ho) (by rw [show pre ++ (l ++ l2 ++ [2000 + c i]) = pre ++ l ++ l2 ++ [2000 + c i] by simp only [List.append_assoc]]; exact k3) F3
    · rw [if_neg e]
      have : d_Rule_sum_8 T (n + 1) d 1 (on x) V = some (1, V) := by
        rw [d_Rule_sum_8, show (40 : Int32) = on 40 from rfl, if_neg (by rw [on_le (by omega) (by omega)]; omega), if_neg (show ¬ (1 : Int32) = 0 by decide), hh, bd_some, if_neg (fun h => e (by simp [qS, h])), bd_some, if_pos (fun h => e (by simp [qS, h])), if_pos (Or.inr rfl)]
      rw [this]
      exact ⟨V, rfl, hk, hF⟩
theorem C_sum' {V0 : ai_V} {c : Nat → Int32} (hc : KH c) (hH : HC V0 c) {T : Int32 → ai_V → Option (Int32 × ai_V)} {d : Int32} {S : Nat → Pr} (hS : ∀ i, i ≤ 40 → GP i (S i)) (hT : RdC V0 (d_Rule_product_B T d) S) : RdC V0 (d_Rule_sum_B T d) (fun i => rpB (S i) (rpL c qS S 40)) := by
  intro V i pre hk hl hi hF
  have h := hT V i pre hk hl hi hF
  have hg := hS i hi
  rw [d_Rule_sum_B]
  simp only []
  generalize S i = r at h hg
  rcases r with p | ⟨j, f, l⟩
  · obtain ⟨V2, e2, a1, a2, F2⟩ := h
    rw [e2, bd_some]
    have : d_Rule_sum_8 T (19999 + 1) d 0 0 V2 = some (0, V2) := by
      rw [d_Rule_sum_8, if_neg (by decide), if_pos rfl, if_pos (Or.inl rfl)]
    show CK V0 pre (d_Rule_sum_8 T (19999 + 1) d 0 0 V2) (.inl p)
    rw [this]
    exact CK_out a1 a2 F2
  · obtain ⟨V2, e2, k2, F2⟩ := h
    rw [e2, bd_some]
    exact C_sum hc hH hS hT hl 40 j 0 ai_N f l V2 (by omega) (N_gt (by omega)) hg k2 F2
theorem C_expr {V0 : ai_V} {c : Nat → Int32} (hc : KH c) (hH : HC V0 c) {T : Int32 → ai_V → Option (Int32 × ai_V)} {d : Int32} {P : Nat → Pr} (hP : ∀ i, i ≤ 40 → GP i (P i)) (hT : RdC V0 (T d) P) : RdC V0 (d_Rule_expression_B T d) (rpE c P) := by
  have hN := C_neg hc hH hP hT
  have hPr : RdC V0 (d_Rule_product_B T d) (rpP c P) := C_product' hc hH (fun i hi => rpN_good hc hP hi) hN
  have hS : RdC V0 (d_Rule_sum_B T d) (rpS c P) := C_sum' hc hH (fun i hi => rpP_good hc hP hi) hPr
  intro V i pre hk hl hi hF
  have h := hS V i pre hk hl hi hF
  have hg := rpS_good hc hP hi
  rw [d_Rule_expression_B, rpE]
  generalize rpS c P i = r at h hg
  rcases r with p | ⟨j, f, l⟩
  · obtain ⟨V2, e2, a1, a2, F2⟩ := h
    rw [e2, bd_some]
    show CK V0 pre _ (.inl p)
    rw [if_neg (fun hn => hn rfl)]
    exact CK_out a1 a2 F2
  · obtain ⟨V2, e2, k2, F2⟩ := h
    have hg' := hg
    obtain ⟨w1, w2, w3, w4, w5⟩ := hg'
    have hh := hH V2 j F2 k2.1 w3
    rw [e2, bd_some, if_pos (show ¬ (1 : Int32) = 0 by decide), hh, bd_some]
    show CK V0 pre _ (if qE (c j) = true then rpB (rpS c P (j + 1)) (fun k f2 l2 => .inr (k, fun e => opf (c j) (f e) (f2 e), l ++ l2 ++ [2000 + c j])) else .inr (j, f, l))
    by_cases e : qE (c j) = true
    · have ho : opo (c j) := by rcases qE_o e with h | h | h <;> simp [opo, h]
      have h40 := hc.lt (opo_m ho)
      have e3 : (if c j = 60 then d_Rule_expression_35 T d (c j) V2 else (if c j = 62 then d_Rule_expression_35 T d (c j) V2 else (if c j = 61 then d_Rule_expression_35 T d (c j) V2 else some (1, V2)))) = d_Rule_expression_35 T d (c j) V2 := by
        rcases qE_o e with h | h | h
        · rw [if_pos h]
        · rw [if_neg (by rw [h]; decide), if_pos h]
        · rw [if_neg (by rw [h]; decide), if_neg (by rw [h]; decide), if_pos h]
      rw [if_pos e, e3, d_Rule_expression_35]
      have h := hS _ (j + 1) (pre ++ l) (kC_go k2) (by rw [List.length_append]; omega) (by omega) (go7 F2)
      have hgg := rpS_good hc hP (i := j + 1) (by omega)
      generalize rpS c P (j + 1) = r at h hgg
      rcases r with p | ⟨k, f2, l2⟩
      · obtain ⟨V3, e3, a1, a2, F3⟩ := h
        rw [e3, bd_some]
        show CK V0 pre _ (.inl p)
        rw [if_neg (fun hn => hn rfl)]
        exact CK_out a1 a2 F3
      · obtain ⟨V3, e3, k3, F3⟩ := h
        obtain ⟨g1, g2, g3, g4, g5⟩ := hgg
        obtain ⟨V4, e4, k4, F4⟩ := emit_y k3 (by rw [List.length_append, List.length_append]; omega) F3 (2000 + c j)
        rw [e3, bd_some, if_pos (show ¬ (1 : Int32) = 0 by decide), e4, bd_some]
        exact ⟨V4, rfl, by rw [show pre ++ (l ++ l2 ++ [2000 + c j]) = pre ++ l ++ l2 ++ [2000 + c j] by simp only [List.append_assoc]]; exact k4, F4⟩
    · rw [if_neg e, if_neg (fun h => e (by simp [qE, h])), if_neg (fun h => e (by simp [qE, h])), if_neg (fun h => e (by simp [qE, h]))]
      exact ⟨V2, rfl, k2, F2⟩
theorem isDigit_eq (x : Int32) (V : ai_V) : d_Text_isDigit x V = some (tf (btw x 48 57)) := by
  rw [d_Text_isDigit]
  by_cases h1 : x < 48
  · rw [if_pos h1, tf_neg (fun h => absurd h.1 (nle.mpr h1))]
  · rw [if_neg h1]
    by_cases h2 : 57 < x
    · rw [if_pos h2, tf_neg (fun h => absurd h.2 (nle.mpr h2))]
    · rw [if_neg h2, tf_pos ⟨nlt.mp h1, nlt.mp h2⟩]
theorem C_num {V0 : ai_V} {c : Nat → Int32} (hc : KH c) (hH : HC V0 c) {pre : List Int32} : ∀ (g i x v n : Nat) (V : ai_V), x + g = 3 → g < n → i ≤ 40 → kC V i pre → Fr wK V0 V →
    ∃ V', d_Rule_number_4 n (on v) (on x) V = d_Rule_number_48 (on (nmb c g i v).2) V' ∧ kC V' (nmb c g i v).1 pre ∧ Fr wK V0 V' := by
  intro g
  induction g with
  | zero =>
    intro i x v n V hx hn hi hk hF
    obtain ⟨n, rfl⟩ : ∃ n', n = n' + 1 := ⟨n - 1, by omega⟩
    refine ⟨V, ?_, hk, hF⟩
    rw [d_Rule_number_4, show (3 : Int32) = on 3 from rfl, if_pos (by rw [on_le (by omega) (by omega)]; omega)]; rfl
  | succ g ih =>
    intro i x v n V hx hn hi hk hF
    obtain ⟨n, rfl⟩ : ∃ n', n = n' + 1 := ⟨n - 1, by omega⟩
    have hh := hH V i hF hk.1 hi
    rw [d_Rule_number_4, show (3 : Int32) = on 3 from rfl, if_neg (by rw [on_le (by omega) (by omega)]; omega), hh, bd_some, isDigit_eq, bd_some, nmb]
    by_cases e : btw (c i) 48 57
    · obtain ⟨b, b1, b2, b3⟩ := btw_on e
      have h40 := hc.lt (show ¬ c i = -1 by rw [b3]; exact on_ne_m1 (by omega))
      obtain ⟨V', e3, k3, F3⟩ := ih (i + 1) (x + 1) (10 * v + (c i - 48).toNatClampNeg) n _ (by omega) (by omega) (by omega) (kC_go hk) (go7 hF)
      have ev : on v * 10 + c i - 48 = on (10 * v + (c i - 48).toNatClampNeg) := by
        rw [b3, dg_on b1 b2, show (10 : Int32) = on 10 from rfl, on_mul, on_add, show (48 : Int32) = on 48 from rfl, on_sub (by omega)]
        congr 1; omega
      rw [if_neg (by rw [tf_pos e]; decide), bd_some, if_pos e, on_s, ev, e3]
      exact ⟨V', rfl, k3, F3⟩
    · rw [if_pos (tf_neg e), if_neg e]
      exact ⟨V, rfl, hk, hF⟩
