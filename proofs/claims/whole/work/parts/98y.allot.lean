/-! ===== who has which storey ===== -/
theorem sb_on : ∀ b, b < 16 → ∀ j, j < 4 → ((on b >>> (on j &&& 31)) &&& (1 : Int32)) = (if b.testBit j = true then 1 else 0) := by decide +kernel
theorem ob_on : ∀ b, b < 16 → ∀ j, j < 4 → on b ||| ((1 : Int32) <<< (on j &&& 31)) = on (b ||| 2 ^ j) ∧ b ||| 2 ^ j < 16 := by decide +kernel
def aS (i j : Nat) (s : Ps) : Ps := (fun q => if q = i then on j else s.1 q, s.2)
def AL (w : Nat → Nat → Int32) (k : Nat) : Nat → Nat → Nat → Int32 → Ps → Ps
  | 0, _, _, sum, s => pU sum s
  | n + 1, i, b, sum, s => fo (fun j s => if b.testBit j = true then s else AL w k n (i + 1) (b ||| 2 ^ j) (sum + w i j) (aS i j s)) k 0 s
def WC (V : ai_V) (k : Nat) (w : Nat → Nat → Int32) : Prop := gi V 72 0 = on k ∧ ∀ i j, i < k → j < k → ga V 75 (i * k + j) = w i j
def WM (V : ai_V) (k : Nat) (w : Nat → Nat → Int32) : Prop := gi V 89 46 = on k ∧ ∀ i j, i < k → j < k → ga V 107 (4 * i + j) = w i j
theorem WC.fr {V V' : ai_V} {k : Nat} {w : Nat → Nat → Int32} {u : Fw} (h : WC V k w) (F : Fr u V V') (hd : fw_dis ([(72, 0)], [75]) u = true) : WC V' k w := by
  have t := Sm.of F hd
  unfold WC at *
  rw [t.i 72 0 rfl, t.a 75 rfl]; exact h
theorem WM.fr {V V' : ai_V} {k : Nat} {w : Nat → Nat → Int32} {u : Fw} (h : WM V k w) (F : Fr u V V') (hd : fw_dis ([(89, 46)], [107]) u = true) : WM V' k w := by
  have t := Sm.of F hd
  unfold WM at *
  rw [t.i 89 46 rfl, t.a 107 rfl]; exact h
def aC (k i : Nat) (s : Ps) (V : ai_V) : Prop := (∀ q, q < i → ga V 76 q = s.1 q) ∧ gi V 72 1 = s.2.1 ∧ (s.2.1 ≠ -1 → ∀ q, q < k → ga V 73 q = s.2.2 q)
def aM (k i : Nat) (s : Ps) (V : ai_V) : Prop := (∀ q, q < i → ga V 109 q = s.1 q) ∧ gi V 89 49 = s.2.1 ∧ (s.2.1 ≠ -1 → ∀ q, q < k → ga V 110 q = s.2.2 q)
def wAC : Fw := ([(72, 1)], [73, 76])
def wAM : Fw := ([(89, 49)], [109, 110])
theorem aC.w {k i : Nat} {s : Ps} {V : ai_V} (h : aC k (i + 1) s V) : aC k i s V := ⟨fun q hq => h.1 q (by omega), h.2⟩
theorem aM.w {k i : Nat} {s : Ps} {V : ai_V} (h : aM k (i + 1) s V) : aM k i s V := ⟨fun q hq => h.1 q (by omega), h.2⟩
theorem aC_set {k i j : Nat} {s : Ps} {V : ai_V} (h : aC k i s V) : aC k (i + 1) (aS i j s) (sa V 76 i (on j)) := by
  refine ⟨fun q hq => ?_, h.2.1, fun hne q hq => ?_⟩
  · rw [ga_sa]
    show _ = if q = i then on j else s.1 q
    by_cases e : q = i
    · rw [if_pos ⟨rfl, e⟩, if_pos e]
    · rw [if_neg (fun hc => e hc.2), if_neg e]; exact h.1 q (by omega)
  · rw [ga_sa_ne (by decide)]; exact h.2.2 hne q hq
theorem aM_set {k i j : Nat} {s : Ps} {V : ai_V} (h : aM k i s V) : aM k (i + 1) (aS i j s) (sa V 109 i (on j)) := by
  refine ⟨fun q hq => ?_, h.2.1, fun hne q hq => ?_⟩
  · rw [ga_sa]
    show _ = if q = i then on j else s.1 q
    by_cases e : q = i
    · rw [if_pos ⟨rfl, e⟩, if_pos e]
    · rw [if_neg (fun hc => e hc.2), if_neg e]; exact h.1 q (by omega)
  · rw [ga_sa_ne (by decide)]; exact h.2.2 hne q hq
theorem worth_eq {V : ai_V} {k : Nat} {w : Nat → Nat → Int32} (hw : WC V k w) (h4 : k ≤ 4) {i j : Nat} (hi : i < k) (hj : j < k) : d_Worths_worth (on i) (on j) V = some (w i j) := by
  have hb : i * k + j < 16 := by
    have : i * k ≤ 3 * k := Nat.mul_le_mul_right k (by omega)
    omega
  rw [d_Worths_worth, hw.1, on_mul, on_add, if_neg (nlt.mpr (on_ge0 (by omega))), show Int32.ofNat 16 = on 16 from rfl, if_neg (by rw [on_le (by omega) (by omega)]; omega), if_pos (by rw [on_in (by omega)]; omega), on_nn (by omega), hw.2 i j hi hj]
theorem C_AL {V0 : ai_V} {k : Nat} {w : Nat → Nat → Int32} (h4 : k ≤ 4) (hw : WC V0 k w) : ∀ (n i b fu : Nat) (sum : Int32) (s : Ps) (V : ai_V), i + n = k → n < fu → b < 16 → aC k i s V → Fr wAC V0 V →
    ∃ V', d_Worths_place_R fu (on i) (on b) sum V = some V' ∧ aC k i (AL w k n i b sum s) V' ∧ Fr wAC V0 V' := by
  intro n
  induction n with
  | zero =>
    intro i b fu sum s V hi hfu hb hr hF
    obtain ⟨fu, rfl⟩ : ∃ n', fu = n' + 1 := ⟨fu - 1, by omega⟩
    obtain rfl : i = k := by omega
    have W1 := hw.fr hF rfl
    rw [d_Worths_place_R, d_Worths_place_B, W1.1, if_neg (by rw [on_lt (by omega) (by omega)]; omega), hr.2.1, AL, pU]
    by_cases e : s.2.1 < sum
    · have g0 : gi (si V 72 1 sum) 72 0 = on i := by rw [gi_si, if_neg (by decide)]; exact W1.1
      rw [if_neg (nle.mpr e), if_pos e, g0, if_pos ⟨by decide, by decide, on_ge0 (by omega), by rw [on_nn (by omega)]; show 0 + i ≤ 4; omega, by rw [on_nn (by omega)]; show 0 + i ≤ 4; omega⟩]
      refine ⟨_, rfl, ⟨fun q hq => ?_, ?_, fun _ q hq => ?_⟩, Fr.cp (Fr.si hF rfl) rfl⟩
      · rw [ga_cpy, if_neg (by decide), ga_si]; exact hr.1 q hq
      · show gi (si V 72 1 sum) 72 1 = sum
        rw [gi_si, if_pos ⟨rfl, rfl⟩]
      · rw [ga_cpy, if_pos rfl, show ((0 : Int32)).toNatClampNeg = 0 from rfl, on_nn (by omega), if_pos (by omega), ga_si]
        rw [show 0 + (q - 0) = q by omega]; exact hr.1 q hq
    · rw [if_pos (nlt.mp e), if_neg e]
      exact ⟨V, rfl, hr, hF⟩
  | succ n ih =>
    intro i b fu sum s V hi hfu hb hr hF
    obtain ⟨fu, rfl⟩ : ∃ n', fu = n' + 1 := ⟨fu - 1, by omega⟩
    have W1 := hw.fr hF rfl
    rw [d_Worths_place_R, d_Worths_place_B, W1.1, if_pos (by rw [on_lt (by omega) (by omega)]; omega), AL]
    refine loop_n (fun n' (_ : Unit) x V => d_Worths_place_42 (d_Worths_place_R fu) n' (on i) (on b) sum x V) (fun c : ai_V => some c)
      (fun j _ V' => aC k i (fo (fun j s => if b.testBit j = true then s else AL w k n (i + 1) (b ||| 2 ^ j) (sum + w i j) (aS i j s)) j 0 s) V' ∧ Fr wAC V0 V')
      (fun V' => aC k i (fo (fun j s => if b.testBit j = true then s else AL w k n (i + 1) (b ||| 2 ^ j) (sum + w i j) (aS i j s)) k 0 s) V' ∧ Fr wAC V0 V') k ?_ ?_ k 0 ai_N () V (by omega) (N_gt (by omega)) ⟨hr, hF⟩
    · rintro n' _ j V2 hj ⟨r2, F2⟩
      have W2 := hw.fr F2 rfl
      show ∃ (a' : Unit) (V' : ai_V), d_Worths_place_42 (d_Worths_place_R fu) (n' + 1) (on i) (on b) sum (on j) V2 = _ ∧ _
      rw [d_Worths_place_42, W2.1, if_neg (by rw [on_le (by omega) (by omega)]; omega), sb_on b hb j (by omega), fo_s, Nat.zero_add]
      generalize fo (fun j s => if b.testBit j = true then s else AL w k n (i + 1) (b ||| 2 ^ j) (sum + w i j) (aS i j s)) j 0 s = s2 at *
      by_cases e : b.testBit j = true
      · rw [if_pos e, if_pos (by decide), d_Worths_place_90, on_s, if_pos e]
        exact ⟨(), V2, rfl, r2, F2⟩
      · obtain ⟨o1, o2⟩ := ob_on b hb j (by omega)
        have F3 : Fr wAC V0 (sa V2 76 i (on j)) := Fr.sa F2 rfl
        obtain ⟨V4, e4, r4, F4⟩ := ih (i + 1) (b ||| 2 ^ j) fu (sum + w i j) (aS i j s2) (sa V2 76 i (on j)) (by omega) (by omega) o2 (aC_set r2) F3
        rw [if_neg e, if_neg (fun hn => hn rfl), if_pos (by rw [on_in (by omega)]; omega), on_nn (by omega), worth_eq (hw.fr F3 rfl) h4 (by omega) hj, bd_some, o1, on_s, e4, bd_some, d_Worths_place_90, on_s, if_neg e]
        exact ⟨(), V4, rfl, r4.w, F4⟩
    · rintro n' _ V2 ⟨r2, F2⟩
      have W2 := hw.fr F2 rfl
      show ∃ c : ai_V, d_Worths_place_42 (d_Worths_place_R fu) (n' + 1) (on i) (on b) sum (on k) V2 = _ ∧ _
      rw [d_Worths_place_42, W2.1, if_pos (Int32.le_refl _)]
      exact ⟨V2, rfl, r2, F2⟩
theorem M_al25 {T : Int32 → Int32 → Int32 → ai_V → Option ai_V} {V : ai_V} {k : Nat} (h4 : k ≤ 4) (hk : gi V 89 46 = on k) : ∃ V', d_M_goAllot_25 T ai_N 0 V = some V' ∧ (∀ q, q < k → ga V' 110 q = ga V 109 q) ∧ Fr ([], [110]) V V' := by
  refine loop_n (fun n (_ : Unit) x V => d_M_goAllot_25 T n x V) (fun c : ai_V => some c) (fun i _ V1 => (∀ q, q < i → ga V1 110 q = ga V 109 q) ∧ Fr ([], [110]) V V1) (fun V' => (∀ q, q < k → ga V' 110 q = ga V 109 q) ∧ Fr ([], [110]) V V') k ?_ ?_ k 0 ai_N () V (by omega) (N_gt (by omega)) ⟨fun q hq => absurd hq (by omega), Fr.rf⟩
  · rintro n _ i V1 hi ⟨a1, hF⟩
    have hin : ai_in (on i) 4 := by rw [on_in (by omega)]; omega
    show ∃ a' V', d_M_goAllot_25 T (n + 1) (on i) V1 = _ ∧ _
    rw [d_M_goAllot_25, hF.gi 89 46 rfl, hk, if_neg (by rw [on_le (by omega) (by omega)]; omega), if_pos hin, if_pos hin, on_s, on_nn (by omega)]
    refine ⟨(), _, rfl, fun q hq => ?_, Fr.sa hF rfl⟩
    rw [ga_sa, hF.ga 109 rfl]
    by_cases e : q = i
    · rw [if_pos ⟨rfl, e⟩, e]
    · rw [if_neg (fun hc => e hc.2)]; exact a1 q (by omega)
  · rintro n _ V1 ⟨a1, hF⟩
    show ∃ c : ai_V, d_M_goAllot_25 T (n + 1) (on k) V1 = _ ∧ _
    rw [d_M_goAllot_25, hF.gi 89 46 rfl, hk, if_pos (Int32.le_refl _)]
    exact ⟨V1, rfl, a1, hF⟩
theorem M_AL {V0 : ai_V} {k : Nat} {w : Nat → Nat → Int32} (h4 : k ≤ 4) (hw : WM V0 k w) : ∀ (n i b fu : Nat) (sum : Int32) (s : Ps) (V : ai_V), i + n = k → n < fu → b < 16 → aM k i s V → Fr wAM V0 V →
    ∃ V', d_M_goAllot_R fu (on i) (on b) sum V = some V' ∧ aM k i (AL w k n i b sum s) V' ∧ Fr wAM V0 V' := by
  intro n
  induction n with
  | zero =>
    intro i b fu sum s V hi hfu hb hr hF
    obtain ⟨fu, rfl⟩ : ∃ n', fu = n' + 1 := ⟨fu - 1, by omega⟩
    obtain rfl : i = k := by omega
    have W1 := hw.fr hF rfl
    rw [d_M_goAllot_R, d_M_goAllot_B, W1.1, if_neg (fun hn => hn rfl), hr.2.1, AL, pU]
    by_cases e : s.2.1 < sum
    · rw [if_pos e, if_pos e]
      have F2 : Fr wAM V0 (si V 89 49 sum) := Fr.si hF rfl
      obtain ⟨V3, e3, a3, F3⟩ := M_al25 (T := d_M_goAllot_R fu) h4 (hw.fr F2 rfl).1
      refine ⟨V3, e3, ⟨fun q hq => ?_, ?_, fun _ q hq => ?_⟩, Fr.tr F2 F3 rfl⟩
      · rw [F3.ga 109 rfl]; exact hr.1 q hq
      · rw [F3.gi 89 49 rfl, gi_si, if_pos ⟨rfl, rfl⟩]
      · rw [a3 q hq]; exact hr.1 q hq
    · rw [if_neg e, if_neg e]
      exact ⟨V, rfl, hr, hF⟩
  | succ n ih =>
    intro i b fu sum s V hi hfu hb hr hF
    obtain ⟨fu, rfl⟩ : ∃ n', fu = n' + 1 := ⟨fu - 1, by omega⟩
    have W1 := hw.fr hF rfl
    rw [d_M_goAllot_R, d_M_goAllot_B, W1.1, if_pos (by rw [on_inj (by omega) (by omega)]; omega), AL]
    refine loop_n (fun n' (_ : Unit) x V => d_M_goAllot_58 (d_M_goAllot_R fu) n' (on i) (on b) sum x V) (fun c : ai_V => some c)
      (fun j _ V' => aM k i (fo (fun j s => if b.testBit j = true then s else AL w k n (i + 1) (b ||| 2 ^ j) (sum + w i j) (aS i j s)) j 0 s) V' ∧ Fr wAM V0 V')
      (fun V' => aM k i (fo (fun j s => if b.testBit j = true then s else AL w k n (i + 1) (b ||| 2 ^ j) (sum + w i j) (aS i j s)) k 0 s) V' ∧ Fr wAM V0 V') k ?_ ?_ k 0 ai_N () V (by omega) (N_gt (by omega)) ⟨hr, hF⟩
    · rintro n' _ j V2 hj ⟨r2, F2⟩
      have W2 := hw.fr F2 rfl
      show ∃ (a' : Unit) (V' : ai_V), d_M_goAllot_58 (d_M_goAllot_R fu) (n' + 1) (on i) (on b) sum (on j) V2 = _ ∧ _
      rw [d_M_goAllot_58, W2.1, if_neg (by rw [on_le (by omega) (by omega)]; omega), mhas_on (by omega) (by omega), bd_some, fo_s, Nat.zero_add]
      generalize fo (fun j s => if b.testBit j = true then s else AL w k n (i + 1) (b ||| 2 ^ j) (sum + w i j) (aS i j s)) j 0 s = s2 at *
      by_cases e : b.testBit j = true
      · rw [if_neg (by rw [tf_pos e]; decide), d_M_goAllot_113, on_s, if_pos e]
        exact ⟨(), V2, rfl, r2, F2⟩
      · obtain ⟨o1, o2⟩ := ob_on b hb j (by omega)
        have F3 : Fr wAM V0 (sa V2 109 i (on j)) := Fr.sa F2 rfl
        obtain ⟨V4, e4, r4, F4⟩ := ih (i + 1) (b ||| 2 ^ j) fu (sum + w i j) (aS i j s2) (sa V2 109 i (on j)) (by omega) (by omega) o2 (aM_set r2) F3
        rw [if_pos (tf_neg e), if_pos (by rw [on_in (by omega)]; omega), show (4 : Int32) = on 4 from rfl, on_mul, on_add, if_pos (by rw [on_in (by omega)]; omega), on_nn (by omega), on_nn (by omega), (hw.fr F3 rfl).2 i j (by omega) hj, o1, on_s, e4, bd_some, d_M_goAllot_113, on_s, if_neg e]
        exact ⟨(), V4, rfl, r4.w, F4⟩
    · rintro n' _ V2 ⟨r2, F2⟩
      have W2 := hw.fr F2 rfl
      show ∃ c : ai_V, d_M_goAllot_58 (d_M_goAllot_R fu) (n' + 1) (on i) (on b) sum (on k) V2 = _ ∧ _
      rw [d_M_goAllot_58, W2.1, if_pos (Int32.le_refl _)]
      exact ⟨V2, rfl, r2, F2⟩
/-! what is found -/
theorem AL_mono (w : Nat → Nat → Int32) (k : Nat) : ∀ (n i b : Nat) (sum : Int32) (s : Ps), 0 ≤ s.2.1 → 0 ≤ (AL w k n i b sum s).2.1 := by
  intro n
  induction n with
  | zero =>
    intro i b sum s h
    rw [AL, pU]
    by_cases e : s.2.1 < sum
    · rw [if_pos e]
      exact Int32.le_trans h (Int32.le_of_lt e)
    · rw [if_neg e]; exact h
  | succ n ih =>
    intro i b sum s h
    rw [AL]
    refine (fo_ind (fun _ s => 0 ≤ s.2.1) k (fun j a _ ha => ?_) k 0 s (by omega) h)
    by_cases e : b.testBit j = true
    · rw [if_pos e]; exact ha
    · rw [if_neg e]; exact ih _ _ _ _ ha
theorem fr_bit : ∀ b, b < 16 → ∀ k, k < 5 → b < 2 ^ k → popc b < k → ∃ j, j < k ∧ ¬ b.testBit j = true := by decide +kernel
theorem fr_p1 : ∀ b, b < 16 → ∀ j, j < 4 → (¬ b.testBit j = true) → popc (b ||| 2 ^ j) = popc b + 1 := by decide +kernel
theorem fr_p2 : ∀ k, k < 5 → ∀ b, b < 2 ^ k → ∀ j, j < k → b ||| 2 ^ j < 2 ^ k := by decide +kernel
theorem fr_pop (b : Nat) (hb : b < 16) (k : Nat) (hk : k < 5) (j : Nat) (hj : j < 4) (h : b < 2 ^ k ∧ j < k ∧ ¬ b.testBit j = true) : popc (b ||| 2 ^ j) = popc b + 1 ∧ b ||| 2 ^ j < 2 ^ k := ⟨fr_p1 b hb j hj h.2.2, fr_p2 k hk b h.1 j h.2.1⟩
theorem AL_leaf {w : Nat → Nat → Int32} {k : Nat} (h4 : k ≤ 4) (hw : ∀ i j, i < k → j < k → 0 ≤ (w i j).toInt ∧ (w i j).toInt ≤ 9) : ∀ (n i b : Nat) (sum : Int32) (s : Ps), i + n = k → b < 16 → b < 2 ^ k → popc b = i → 0 ≤ sum.toInt → sum.toInt ≤ 9 * i → 0 ≤ (AL w k n i b sum s).2.1 := by
  intro n
  induction n with
  | zero =>
    intro i b sum s hi hb hk hp h0 h1
    rw [AL, pU]
    by_cases e : s.2.1 < sum
    · rw [if_pos e, ti_le]; exact h0
    · rw [if_neg e]
      exact Int32.le_trans (by rw [ti_le]; exact h0) (nlt.mp e)
  | succ n ih =>
    intro i b sum s hi hb hk hp h0 h1
    rw [AL]
    obtain ⟨j0, j1, j2⟩ := fr_bit b hb k (by omega) hk (by omega)
    have := (fo_ind (g := fun j s => if b.testBit j = true then s else AL w k n (i + 1) (b ||| 2 ^ j) (sum + w i j) (aS i j s)) (fun j (s : Ps) => j0 < j → 0 ≤ s.2.1) k (fun j a hj ha hj0 => ?_) k 0 s (by omega) (fun hc => absurd hc (by omega)))
    · exact this (by omega)
    by_cases ej : j = j0
    · subst ej
      obtain ⟨p1, p2⟩ := fr_pop b hb k (by omega) j (by omega) ⟨hk, hj, j2⟩
      obtain ⟨w1, w2⟩ := hw i j (by omega) hj
      have es := ti_add (x := sum) (y := w i j) (by omega) (by omega)
      rw [if_neg j2]
      exact ih (i + 1) _ _ _ (by omega) (ob_on b hb j (by omega)).2 p2 (by omega) (by omega) (by omega)
    · by_cases e : b.testBit j = true
      · rw [if_pos e]; exact ha (by omega)
      · rw [if_neg e]; exact AL_mono _ _ _ _ _ _ _ (ha (by omega))
def aG (k i : Nat) (s : Ps) : Prop := (∀ q, q < i → ∃ a, a < k ∧ s.1 q = on a) ∧ (s.2.1 ≠ -1 → ∀ q, q < k → ∃ a, a < k ∧ s.2.2 q = on a)
theorem AL_ok {w : Nat → Nat → Int32} {k : Nat} : ∀ (n i b : Nat) (sum : Int32) (s : Ps), i + n = k → aG k i s → aG k i (AL w k n i b sum s) := by
  intro n
  induction n with
  | zero =>
    intro i b sum s hi h
    obtain rfl : i = k := by omega
    rw [AL, pU]
    by_cases e : s.2.1 < sum
    · rw [if_pos e]; exact ⟨h.1, fun _ => h.1⟩
    · rw [if_neg e]; exact h
  | succ n ih =>
    intro i b sum s hi h
    rw [AL]
    refine (fo_ind (fun _ s => aG k i s) k (fun j a hj ha => ?_) k 0 s (by omega) h)
    by_cases e : b.testBit j = true
    · rw [if_pos e]; exact ha
    · rw [if_neg e]
      have := ih (i + 1) (b ||| 2 ^ j) (sum + w i j) (aS i j a) (by omega) ⟨fun q hq => ?_, ha.2⟩
      · exact ⟨fun q hq => this.1 q (by omega), this.2⟩
      · show ∃ c, c < k ∧ (if q = i then on j else a.1 q) = on c
        by_cases e2 : q = i
        · rw [if_pos e2]; exact ⟨j, hj, rfl⟩
        · rw [if_neg e2]; exact ha.1 q (by omega)
def a0 : Ps := (fun _ => 0, -1, fun _ => 0)
def alR (s : Ps) (i : Nat) : List Int64 := (List.range i).map (fun k => (s.2.2 k).toInt64)
theorem alR_s (s : Ps) (i : Nat) : alR s (i + 1) = alR s i ++ [(s.2.2 i).toInt64] := by
  unfold alR; rw [List.range_succ, List.map_append]; rfl
theorem alR_len (s : Ps) (i : Nat) : (alR s i).length = i := by simp [alR]
theorem C_all {V : ai_V} {k : Nat} {w : Nat → Nat → Int32} (h4 : k ≤ 4) (hw : WC V k w) : ∃ V', d_Worths_allotAll V = some V' ∧ aC k 0 (AL w k k 0 0 0 a0) V' ∧ Fr wAC V V' := by
  have F1 : Fr wAC V (si V 72 1 (-1)) := Fr.si Fr.rf rfl
  obtain ⟨V2, e2, r2, F2⟩ := C_AL h4 hw k 0 0 80 0 a0 (si V 72 1 (-1)) (by omega) (by omega) (by omega) ⟨fun q hq => absurd hq (by omega), by rw [gi_si, if_pos ⟨rfl, rfl⟩]; rfl, fun hn => absurd rfl hn⟩ F1
  refine ⟨V2, ?_, r2, F2⟩
  have e3 : d_Worths_place 0 0 0 (si V 72 1 (-1)) = some V2 := e2
  rw [d_Worths_allotAll, e3]; rfl
theorem M_all {V : ai_V} {k : Nat} {w : Nat → Nat → Int32} (h4 : k ≤ 4) (hw : WM V k w) : ∃ V', d_M_goAllot 0 0 0 (si V 89 49 (-1)) = some V' ∧ aM k 0 (AL w k k 0 0 0 a0) V' ∧ Fr wAM V V' := by
  have F1 : Fr wAM V (si V 89 49 (-1)) := Fr.si Fr.rf rfl
  obtain ⟨V2, e2, r2, F2⟩ := M_AL h4 hw k 0 0 80 0 a0 (si V 89 49 (-1)) (by omega) (by omega) (by omega) ⟨fun q hq => absurd hq (by omega), by rw [gi_si, if_pos ⟨rfl, rfl⟩]; rfl, fun hn => absurd rfl hn⟩ F1
  exact ⟨V2, e2, r2, F2⟩
theorem all_pos {w : Nat → Nat → Int32} {k : Nat} (h4 : k ≤ 4) (hw : ∀ i j, i < k → j < k → 0 ≤ (w i j).toInt ∧ (w i j).toInt ≤ 9) : 0 ≤ (AL w k k 0 0 0 a0).2.1 ∧ (AL w k k 0 0 0 a0).2.1 ≠ -1 ∧ ∀ q, q < k → ∃ a, a < k ∧ (AL w k k 0 0 0 a0).2.2 q = on a := by
  have h := AL_leaf h4 hw k 0 0 0 a0 (by omega) (by omega) (Nat.pow_pos (by omega)) rfl (by decide) (by decide)
  have hn : (AL w k k 0 0 0 a0).2.1 ≠ -1 := by
    intro e
    rw [e] at h
    exact absurd h (by decide)
  exact ⟨h, hn, (AL_ok k 0 0 0 a0 (by omega) ⟨fun q hq => absurd hq (by omega), fun hn => absurd rfl hn⟩).2 hn⟩
theorem Inv.v {N : Nat} {V : ai_V} (hI : Inv N V) : ∃ k w, (k = 0 ∨ 2 ≤ k) ∧ k ≤ 4 ∧ WC V k w ∧ WM V k w ∧ ∀ i j, i < k → j < k → 0 ≤ (w i j).toInt ∧ (w i j).toInt ≤ 9 := by
  obtain ⟨h, f, z, rm, -, -, -, -, -, -, -, hV, -, -⟩ := hI
  obtain ⟨k, k1, k2, k3, k4, k5⟩ := hV
  exact ⟨k, fun i j => ga V 107 (4 * i + j), k1, k2, ⟨k3, fun i j hi hj => (k5 i j hi hj).1⟩, ⟨k4, fun i j hi hj => rfl⟩, fun i j hi hj => (k5 i j hi hj).2⟩
theorem X_allot {V : ai_V} {k : Nat} {w : Nat → Nat → Int32} (h4 : k ≤ 4) (h2 : 2 ≤ k) (hw : WC V k w) (hn : (AL w k k 0 0 0 a0).2.1 ≠ -1) : ∃ V', d_X_allot V = some ((AL w k k 0 0 0 a0).2.1, V') ∧ cRow V' (alR (AL w k k 0 0 0 a0) k) := by
  obtain ⟨V3, e3, r3, F3⟩ := C_all h4 hw
  generalize AL w k k 0 0 0 a0 = s at *
  obtain ⟨q1, q2⟩ := row_clear V3
  have W3 := hw.fr F3 rfl
  rw [d_X_allot, hw.1, if_pos (by rw [zero_on, on_inj (by omega) (by omega)]; omega), e3, bd_some, d_Worths_tellInto, q1, bd_some]
  have := loop_n (fun n (_ : Unit) x V => d_Worths_tellInto_6 n x V) (fun c : ai_V => some c)
    (fun i _ V' => cRow V' (alR s i) ∧ Fr ([(22, 1)], [23]) V3 V') (fun c => cRow c (alR s k) ∧ Fr ([(22, 1)], [23]) V3 c) k ?_ ?_ k 0 ai_N () _ (by omega) (N_gt (by omega)) ⟨q2, Fr.si Fr.rf rfl⟩
  · obtain ⟨V4, e, q1, F4⟩ := this
    have e' : d_Worths_tellInto_6 ai_N 0 (si V3 22 1 0) = some V4 := e
    rw [e', bd_some, F4.gi 72 1 rfl, r3.2.1]
    exact ⟨V4, rfl, q1⟩
  · rintro n _ i V4 hi ⟨r4, F4⟩
    show ∃ (a' : Unit) (V' : ai_V), d_Worths_tellInto_6 (n + 1) (on i) V4 = _ ∧ _
    obtain ⟨V5, e5, r5, F5⟩ := row_add r4 (by rw [alR_len]; omega) (s.2.2 i).toInt64
    rw [d_Worths_tellInto_6, F4.gi 72 0 rfl, W3.1, if_neg (by rw [on_le (by omega) (by omega)]; omega), if_pos (by rw [on_in (by omega)]; omega), on_nn (by omega), F4.ga 73 rfl, r3.2.2 hn i hi, e5, bd_some, on_s]
    exact ⟨(), V5, rfl, by rw [alR_s]; exact r5, Fr.tr F4 F5 rfl⟩
  · rintro n _ V4 ⟨r4, F4⟩
    show ∃ c : ai_V, d_Worths_tellInto_6 (n + 1) (on k) V4 = _ ∧ _
    rw [d_Worths_tellInto_6, F4.gi 72 0 rfl, W3.1, if_pos (Int32.le_refl _)]
    exact ⟨_, rfl, r4, F4⟩
theorem M_allot {V : ai_V} {k : Nat} {w : Nat → Nat → Int32} (h4 : k ≤ 4) (h2 : 2 ≤ k) (hw : WM V k w) (hn : (AL w k k 0 0 0 a0).2.1 ≠ -1) : ∃ V', d_M_allot V = some ((AL w k k 0 0 0 a0).2.1, V') ∧ mRow V' (alR (AL w k k 0 0 0 a0) k) := by
  have F0 : Fr ([(89, 14)], []) V (si V 89 14 0) := Fr.si Fr.rf rfl
  have W0 := hw.fr F0 rfl
  obtain ⟨V3, e3, r3, F3⟩ := M_all h4 W0
  generalize AL w k k 0 0 0 a0 = s at *
  have W3 := W0.fr F3 rfl
  rw [d_M_allot, W0.1, if_pos (by rw [zero_on, on_inj (by omega) (by omega)]; omega), e3, bd_some]
  have := loop_n (fun n (_ : Unit) x V => d_M_allot_34 n x V) (fun c : Int32 × ai_V => some c)
    (fun i _ V' => mRow V' (alR s i) ∧ Fr ([(89, 13)], [97]) V3 V') (fun c => c.1 = s.2.1 ∧ mRow c.2 (alR s k)) k ?_ ?_ k 0 ai_N () _ (by omega) (N_gt (by omega)) ⟨m_row0 V3, Fr.si Fr.rf rfl⟩
  · obtain ⟨⟨c1, c2⟩, e, q1, q2⟩ := this
    simp only at q1 q2
    subst q1
    exact ⟨c2, e, q2⟩
  · rintro n _ i V4 hi ⟨r4, F4⟩
    show ∃ (a' : Unit) (V' : ai_V), d_M_allot_34 (n + 1) (on i) V4 = _ ∧ _
    obtain ⟨V5, e5, r5, F5⟩ := m_tell r4 (by rw [alR_len]; omega) (s.2.2 i).toInt64
    rw [d_M_allot_34, F4.gi 89 46 rfl, W3.1, if_neg (by rw [on_le (by omega) (by omega)]; omega), if_pos (by rw [on_in (by omega)]; omega), on_nn (by omega), F4.ga 110 rfl, r3.2.2 hn i hi, e5, bd_some, on_s]
    exact ⟨(), V5, rfl, by rw [alR_s]; exact r5, Fr.tr F4 F5 rfl⟩
  · rintro n _ V4 ⟨r4, F4⟩
    show ∃ c : Int32 × ai_V, d_M_allot_34 (n + 1) (on k) V4 = _ ∧ _
    rw [d_M_allot_34, F4.gi 89 46 rfl, W3.1, if_pos (Int32.le_refl _), F4.gi 89 49 rfl, r3.2.1]
    exact ⟨_, rfl, rfl, r4⟩
theorem st_allot {N : Nat} {V : ai_V} (hI : Inv N V) (hN : N < 512) : Step N V d_X_allot d_M_allot := by
  obtain ⟨k, w, k1, h4, wc, wm, w9⟩ := hI.v
  rcases k1 with rfl | h2
  · refine ⟨-2, V, si V 89 14 0, ?_, ?_, hI.no 0⟩
    · rw [d_X_allot, wc.1]; rfl
    · rw [d_M_allot, m14 _ _ 89 46 (by decide), wm.1]; rfl
  · obtain ⟨-, hn, -⟩ := all_pos h4 w9
    obtain ⟨V1, e1, c1⟩ := X_allot h4 h2 wc hn
    have F1 : Fr w_X_allot V V1 := fr_X_allot _ _ e1
    obtain ⟨V2, e2, c2⟩ := M_allot h4 h2 (wm.fr F1 rfl) hn
    have F2 : Fr w_M_allot V1 V2 := fr_M_allot _ _ e2
    exact ⟨_, V1, V2, e1, e2, hI.qq F1 F2 rfl rfl rfl rfl (o := some _) (fun r hr => by obtain rfl := Option.some.inj hr; rw [alR_len]; omega) c1 c2 (hI.x.fr2 F1 F2 rfl rfl)⟩
