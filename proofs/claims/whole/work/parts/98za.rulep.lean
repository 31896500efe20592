/-! ===== a rule's text ===== -/
abbrev Ev : Type := Nat → Int32
abbrev Pr : Type := Nat ⊕ (Nat × (Ev → Int32) × List Int32)
def rpB (r : Pr) (k : Nat → (Ev → Int32) → List Int32 → Pr) : Pr := match r with
  | .inl p => .inl p
  | .inr (j, f, l) => k j f l
def mns (c : Nat → Int32) : Nat → Nat → Nat
  | 0, _ => 0
  | g + 1, i => if c i = 45 then mns c g (i + 1) + 1 else 0
def opf (o a b : Int32) : Int32 := if o = 42 then a * b else if o = 43 then a + b else if o = 45 then a - b else if o = 47 then (if b = 0 then 0 else a / b) else if o = 60 then (if b ≤ a then 0 else 1) else if o = 62 then (if a ≤ b then 0 else 1) else (if a = b then 1 else 0)
def rpN (c : Nat → Int32) (T : Nat → Pr) (i : Nat) : Pr := rpB (T (i + mns c 40 i)) (fun j f l => if mns c 40 i % 2 = 1 then .inr (j, fun e => -(f e), l ++ [2126]) else .inr (j, f, l))
def rpL (c : Nat → Int32) (q : Int32 → Bool) (S : Nat → Pr) : Nat → Nat → (Ev → Int32) → List Int32 → Pr
  | 0, i, f, l => .inr (i, f, l)
  | g + 1, i, f, l => if q (c i) = true then rpB (S (i + 1)) (fun j f2 l2 => rpL c q S g j (fun e => opf (c i) (f e) (f2 e)) (l ++ l2 ++ [2000 + c i])) else .inr (i, f, l)
def qP (x : Int32) : Bool := decide (x = 42) || decide (x = 47)
def qS (x : Int32) : Bool := decide (x = 43) || decide (x = 45)
def qE (x : Int32) : Bool := decide (x = 60) || (decide (x = 62) || decide (x = 61))
def rpP (c : Nat → Int32) (T : Nat → Pr) (i : Nat) : Pr := rpB (rpN c T i) (rpL c qP (rpN c T) 40)
def rpS (c : Nat → Int32) (T : Nat → Pr) (i : Nat) : Pr := rpB (rpP c T i) (rpL c qS (rpP c T) 40)
def rpE (c : Nat → Int32) (T : Nat → Pr) (i : Nat) : Pr := rpB (rpS c T i) (fun j f l => if qE (c j) = true then rpB (rpS c T (j + 1)) (fun k f2 l2 => .inr (k, fun e => opf (c j) (f e) (f2 e), l ++ l2 ++ [2000 + c j])) else .inr (j, f, l))
def nmb (c : Nat → Int32) : Nat → Nat → Nat → Nat × Nat
  | 0, i, v => (i, v)
  | g + 1, i, v => if btw (c i) 48 57 then nmb c g (i + 1) (10 * v + (c i - 48).toNatClampNeg) else (i, v)
def vIx (x : Int32) : Nat := if x = 116 then 0 else if x = 112 then 1 else if x = 119 then 2 else if x = 108 then 3 else if x = 110 then 4 else if x = 113 then 5 else if x = 121 then 6 else 7
def rpV (c : Nat → Int32) (i : Nat) : Pr := if vIx (c i) < 7 then .inr (i + 1, fun e => e (vIx (c i)), [on (1000 + vIx (c i))]) else .inl i
def rpD (c : Nat → Int32) (i : Nat) : Pr := .inr ((nmb c 3 i 0).1, fun _ => on (nmb c 3 i 0).2, [on (nmb c 3 i 0).2])
def rpT (c : Nat → Int32) : Nat → Nat → Pr
  | 0, i => if btw (c i) 48 57 then rpD c i else rpV c i
  | k + 1, i => if btw (c i) 48 57 then rpD c i else if c i = 40 then rpB (rpE c (rpT c k) (i + 1)) (fun j f l => if c j = 41 then .inr (j + 1, f, l) else .inl j) else rpV c i
/-! what the codes do -/
def sNeg (st : List Int32) : List Int32 := match st with
  | a :: r => (-a) :: r
  | [] => []
def sBin (o : Int32) (st : List Int32) : List Int32 := match st with
  | b :: a :: r => opf o a b :: r
  | s => s
def stp (e : Ev) (c : Int32) (st : List Int32) : List Int32 := if 2000 ≤ c then (if c = 2126 then sNeg st else sBin (c - 2000) st) else if 1000 ≤ c then e (c - 1000).toNatClampNeg :: st else c :: st
def rnC (e : Ev) (l : List Int32) (st : List Int32) : List Int32 := l.foldl (fun st c => stp e c st) st
theorem rnC_app (e : Ev) (l l2 st : List Int32) : rnC e (l ++ l2) st = rnC e l2 (rnC e l st) := by
  unfold rnC; rw [List.foldl_append]
theorem rnC_one (e : Ev) (x : Int32) (st : List Int32) : rnC e [x] st = stp e x st := rfl
def okc (x : Int32) : Prop := ∃ k, x = on k ∧ (k < 1000 ∨ (1000 ≤ k ∧ k < 1007) ∨ (2000 < k ∧ k < 2127))
def GP (i : Nat) (r : Pr) : Prop := match r with
  | .inl p => i ≤ p ∧ p ≤ 40
  | .inr (j, f, l) => i + l.length ≤ j ∧ i < j ∧ j ≤ 40 ∧ (∀ x, x ∈ l → okc x) ∧ ∀ e st, rnC e l st = f e :: st
def KH (c : Nat → Int32) : Prop := (∀ i, 40 ≤ i → c i = -1) ∧ ∀ i, c i = -1 ∨ ∃ b, b < 256 ∧ c i = on b
theorem KH.lt {c : Nat → Int32} (h : KH c) {i : Nat} (hi : ¬ c i = -1) : i < 40 := by
  apply Classical.byContradiction
  intro hn
  exact hi (h.1 i (by omega))
def opo (x : Int32) : Prop := x = 42 ∨ x = 43 ∨ x = 45 ∨ x = 47 ∨ x = 60 ∨ x = 61 ∨ x = 62
theorem qP_o {x : Int32} (h : qP x = true) : x = 42 ∨ x = 47 := by simpa [qP] using h
theorem qS_o {x : Int32} (h : qS x = true) : x = 43 ∨ x = 45 := by simpa [qS] using h
theorem qE_o {x : Int32} (h : qE x = true) : x = 60 ∨ x = 62 ∨ x = 61 := by simpa [qE] using h
theorem opo_m {x : Int32} (h : opo x) : ¬ x = -1 := by
  rcases h with rfl | rfl | rfl | rfl | rfl | rfl | rfl <;> decide
theorem opo_ok {x : Int32} (h : opo x) : okc (2000 + x) := by
  rcases h with rfl | rfl | rfl | rfl | rfl | rfl | rfl
  · exact ⟨2042, rfl, by omega⟩
  · exact ⟨2043, rfl, by omega⟩
  · exact ⟨2045, rfl, by omega⟩
  · exact ⟨2047, rfl, by omega⟩
  · exact ⟨2060, rfl, by omega⟩
  · exact ⟨2061, rfl, by omega⟩
  · exact ⟨2062, rfl, by omega⟩
theorem opo_st {x : Int32} (h : opo x) (e : Ev) (a b : Int32) (r : List Int32) : stp e (2000 + x) (b :: a :: r) = opf x a b :: r := by
  have h1 : (2000 : Int32) ≤ 2000 + x ∧ ¬ 2000 + x = 2126 ∧ 2000 + x - 2000 = x := by
    rcases h with rfl | rfl | rfl | rfl | rfl | rfl | rfl <;> decide
  rw [stp, if_pos h1.1, if_neg h1.2.1, h1.2.2]; rfl
theorem GP_bin {b i j : Nat} {f f2 : Ev → Int32} {l l2 : List Int32} {x : Int32} (h1 : GP b (.inr (i, f, l))) (h2 : GP (i + 1) (.inr (j, f2, l2))) (hx : opo x) : GP b (.inr (j, fun e => opf x (f e) (f2 e), l ++ l2 ++ [2000 + x])) := by
  obtain ⟨a1, a2, a3, a4, a5⟩ := h1
  obtain ⟨b1, b2, b3, b4, b5⟩ := h2
  refine ⟨?_, by omega, b3, ?_, ?_⟩
  · simp only [List.length_append, List.length_singleton]; omega
  · intro y hy
    rw [List.mem_append, List.mem_append, List.mem_singleton] at hy
    rcases hy with (hy | hy) | rfl
    · exact a4 y hy
    · exact b4 y hy
    · exact opo_ok hx
  · intro e st
    rw [rnC_app, rnC_app, a5, b5, rnC_one, opo_st hx]
theorem GP_le {b i : Nat} {r : Pr} (h : GP i r) (hb : b ≤ i) : GP b r := by
  rcases r with p | ⟨j, f, l⟩
  · exact ⟨by have := h.1; omega, h.2⟩
  · exact ⟨by have := h.1; omega, by have := h.2.1; omega, h.2.2⟩
theorem rpL_good {c : Nat → Int32} {q : Int32 → Bool} {S : Nat → Pr} (hc : KH c) (hq : ∀ x, q x = true → opo x) (hS : ∀ i, i ≤ 40 → GP i (S i)) {b : Nat} : ∀ (g i : Nat) (f : Ev → Int32) (l : List Int32), GP b (.inr (i, f, l)) → GP b (rpL c q S g i f l) := by
  intro g
  induction g with
  | zero => intro i f l h; exact h
  | succ g ih =>
    intro i f l h
    rw [rpL]
    by_cases e : q (c i) = true
    · rw [if_pos e]
      have hi := hc.lt (opo_m (hq _ e))
      have h2 := hS (i + 1) (by omega)
      generalize S (i + 1) = r at h2
      rcases r with p | ⟨j, f2, l2⟩
      · exact GP_le h2 (by have := h.2.1; omega)
      · exact ih j _ _ (GP_bin h h2 (hq _ e))
    · rw [if_neg e]; exact h
theorem mns_le {c : Nat → Int32} (hc : KH c) : ∀ g i, i ≤ 40 → i + mns c g i ≤ 40 := by
  intro g
  induction g with
  | zero => intro i hi; exact hi
  | succ g ih =>
    intro i hi
    rw [mns]
    by_cases e : c i = 45
    · rw [if_pos e]
      have := hc.lt (show ¬ c i = -1 by rw [e]; decide)
      have := ih (i + 1) (by omega)
      omega
    · rw [if_neg e]; exact hi
theorem mns_s {c : Nat → Int32} (hc : KH c) : ∀ g i, 40 ≤ i + g → mns c (g + 1) i = mns c g i := by
  intro g
  induction g with
  | zero =>
    intro i hi
    show (if c i = 45 then mns c 0 (i + 1) + 1 else 0) = 0
    rw [hc.1 i (by omega), if_neg (by decide)]
  | succ g ih =>
    intro i hi
    rw [mns, ih (i + 1) (by omega)]
    rfl
theorem rpN_good {c : Nat → Int32} {T : Nat → Pr} (hc : KH c) (hT : ∀ i, i ≤ 40 → GP i (T i)) {i : Nat} (hi : i ≤ 40) : GP i (rpN c T i) := by
  have hm := mns_le hc 40 i hi
  have h := hT (i + mns c 40 i) hm
  rw [rpN]
  generalize T (i + mns c 40 i) = r at h
  rcases r with p | ⟨j, f, l⟩
  · exact GP_le h (by omega)
  · show GP i (if mns c 40 i % 2 = 1 then .inr (j, fun e => -(f e), l ++ [2126]) else .inr (j, f, l))
    by_cases e : mns c 40 i % 2 = 1
    · rw [if_pos e]
      obtain ⟨a1, a2, a3, a4, a5⟩ := h
      refine ⟨?_, by omega, a3, ?_, ?_⟩
      · simp only [List.length_append, List.length_singleton]; omega
      · intro y hy
        rw [List.mem_append, List.mem_singleton] at hy
        rcases hy with hy | rfl
        · exact a4 y hy
        · exact ⟨2126, rfl, by omega⟩
      · intro e st
        rw [rnC_app, a5, rnC_one]; rfl
    · rw [if_neg e]; exact GP_le h (by omega)
theorem rpP_good {c : Nat → Int32} {T : Nat → Pr} (hc : KH c) (hT : ∀ i, i ≤ 40 → GP i (T i)) {i : Nat} (hi : i ≤ 40) : GP i (rpP c T i) := by
  have h := rpN_good hc hT hi
  rw [rpP]
  generalize rpN c T i = r at h
  rcases r with p | ⟨j, f, l⟩
  · exact h
  · exact rpL_good hc (fun x hx => by rcases qP_o hx with rfl | rfl <;> simp [opo]) (fun i hi => rpN_good hc hT hi) 40 j f l h
theorem rpS_good {c : Nat → Int32} {T : Nat → Pr} (hc : KH c) (hT : ∀ i, i ≤ 40 → GP i (T i)) {i : Nat} (hi : i ≤ 40) : GP i (rpS c T i) := by
  have h := rpP_good hc hT hi
  rw [rpS]
  generalize rpP c T i = r at h
  rcases r with p | ⟨j, f, l⟩
  · exact h
  · exact rpL_good hc (fun x hx => by rcases qS_o hx with rfl | rfl <;> simp [opo]) (fun i hi => rpP_good hc hT hi) 40 j f l h
theorem rpE_good {c : Nat → Int32} {T : Nat → Pr} (hc : KH c) (hT : ∀ i, i ≤ 40 → GP i (T i)) {i : Nat} (hi : i ≤ 40) : GP i (rpE c T i) := by
  have h := rpS_good hc hT hi
  rw [rpE]
  generalize rpS c T i = r at h
  rcases r with p | ⟨j, f, l⟩
  · exact h
  · show GP i (if qE (c j) = true then rpB (rpS c T (j + 1)) (fun k f2 l2 => .inr (k, fun e => opf (c j) (f e) (f2 e), l ++ l2 ++ [2000 + c j])) else .inr (j, f, l))
    by_cases e : qE (c j) = true
    · rw [if_pos e]
      have ho : opo (c j) := by rcases qE_o e with h | h | h <;> simp [opo, h]
      have h2 := rpS_good hc hT (i := j + 1) (by have := hc.lt (opo_m ho); omega)
      generalize rpS c T (j + 1) = r at h2
      rcases r with p | ⟨k, f2, l2⟩
      · exact GP_le h2 (by have := h.2.1; omega)
      · exact GP_bin h h2 ho
    · rw [if_neg e]; exact h
theorem btw_on {x : Int32} (h : btw x 48 57) : ∃ b, 48 ≤ b ∧ b ≤ 57 ∧ x = on b := by
  have h1 := ti_le.mp h.1
  have h2 := ti_le.mp h.2
  have e1 : (48 : Int32).toInt = 48 := rfl
  have e2 : (57 : Int32).toInt = 57 := rfl
  have := ti_nn x
  refine ⟨x.toNatClampNeg, by omega, by omega, (on_of (by rw [ti_le]; show (0 : Int) ≤ _; omega)).symm⟩
theorem dg_on {b : Nat} (h1 : 48 ≤ b) (h2 : b ≤ 57) : (on b - 48).toNatClampNeg = b - 48 := by
  rw [show (48 : Int32) = on 48 from rfl, on_sub h1, on_nn (by omega)]
theorem nmb_le {c : Nat → Int32} (hc : KH c) : ∀ g i v, i ≤ 40 → i ≤ (nmb c g i v).1 ∧ (nmb c g i v).1 ≤ 40 := by
  intro g
  induction g with
  | zero => intro i v hi; exact ⟨Nat.le_refl _, hi⟩
  | succ g ih =>
    intro i v hi
    rw [nmb]
    by_cases e : btw (c i) 48 57
    · rw [if_pos e]
      obtain ⟨b, b1, b2, b3⟩ := btw_on e
      have := hc.lt (show ¬ c i = -1 by rw [b3]; exact on_ne_m1 (by omega))
      have := ih (i + 1) (10 * v + (c i - 48).toNatClampNeg) (by omega)
      omega
    · rw [if_neg e]; exact ⟨Nat.le_refl _, hi⟩
theorem nmb_lt {c : Nat → Int32} : ∀ g i v, v * 10 ^ g + 10 ^ g ≤ 1000 → (nmb c g i v).2 < 1000 := by
  intro g
  induction g with
  | zero => intro i v hv; rw [nmb]; show v < 1000; rw [Nat.pow_zero] at hv; omega
  | succ g ih =>
    intro i v hv
    rw [nmb]
    by_cases e : btw (c i) 48 57
    · rw [if_pos e]
      obtain ⟨b, b1, b2, b3⟩ := btw_on e
      rw [b3, dg_on b1 b2]
      apply ih
      rw [Nat.pow_succ] at hv
      have : (10 * v + (b - 48)) * 10 ^ g ≤ (10 * v + 9) * 10 ^ g := Nat.mul_le_mul_right _ (by omega)
      have e1 : (10 * v + 9) * 10 ^ g = 10 * (v * 10 ^ g) + 9 * 10 ^ g := by rw [Nat.add_mul, Nat.mul_assoc]
      have e2 : v * (10 ^ g * 10) = 10 * (v * 10 ^ g) := by rw [← Nat.mul_assoc, Nat.mul_comm]
      omega
    · rw [if_neg e]
      show v < 1000
      have : 1 ≤ 10 ^ (g + 1) := Nat.one_le_pow _ _ (by omega)
      have : v * 1 ≤ v * 10 ^ (g + 1) := Nat.mul_le_mul_left v this
      omega
theorem rpD_good {c : Nat → Int32} (hc : KH c) {i : Nat} (hi : i ≤ 40) (h : btw (c i) 48 57) : GP i (rpD c i) := by
  obtain ⟨b, b1, b2, b3⟩ := btw_on h
  have h40 := hc.lt (show ¬ c i = -1 by rw [b3]; exact on_ne_m1 (by omega))
  have hl := nmb_lt (c := c) 3 i 0 (by omega)
  have e : nmb c 3 i 0 = nmb c 2 (i + 1) (10 * 0 + (c i - 48).toNatClampNeg) := by rw [nmb, if_pos h]
  have hj := nmb_le hc 2 (i + 1) (10 * 0 + (c i - 48).toNatClampNeg) (by omega)
  rw [← e] at hj
  rw [rpD]
  generalize nmb c 3 i 0 = p at *
  obtain ⟨j, v⟩ := p
  refine ⟨?_, ?_, hj.2, ?_, ?_⟩
  · show i + 1 ≤ j; exact hj.1
  · show i < j; exact hj.1
  · intro x hx
    obtain rfl := List.mem_singleton.mp hx
    exact ⟨v, rfl, Or.inl hl⟩
  · intro e st
    have hv : v < 1000 := hl
    show stp e (on v) st = on v :: st
    rw [stp, if_neg (by rw [show (2000 : Int32) = on 2000 from rfl, on_le (by omega) (by omega)]; omega), if_neg (by rw [show (1000 : Int32) = on 1000 from rfl, on_le (by omega) (by omega)]; omega)]
theorem vIx_m {x : Int32} (h : vIx x < 7) : ¬ x = -1 := by
  intro e
  rw [e] at h
  exact absurd h (by decide)
theorem rpV_good {c : Nat → Int32} (hc : KH c) {i : Nat} (hi : i ≤ 40) : GP i (rpV c i) := by
  rw [rpV]
  by_cases e : vIx (c i) < 7
  · rw [if_pos e]
    have := hc.lt (vIx_m e)
    refine ⟨Nat.le_refl _, by omega, by omega, ?_, ?_⟩
    · intro x hx
      obtain rfl := List.mem_singleton.mp hx
      exact ⟨1000 + vIx (c i), rfl, by omega⟩
    · intro v st
      show stp v (on (1000 + vIx (c i))) st = v (vIx (c i)) :: st
      generalize vIx (c i) = k at *
      rw [stp, if_neg (by rw [show (2000 : Int32) = on 2000 from rfl, on_le (by omega) (by omega)]; omega), if_pos (by rw [show (1000 : Int32) = on 1000 from rfl, on_le (by omega) (by omega)]; omega), show (1000 : Int32) = on 1000 from rfl, on_sub (by omega), on_nn (by omega), show 1000 + k - 1000 = k by omega]
  · rw [if_neg e]
    exact ⟨Nat.le_refl _, hi⟩
theorem rpT_good {c : Nat → Int32} (hc : KH c) : ∀ k i, i ≤ 40 → GP i (rpT c k i) := by
  intro k
  induction k with
  | zero =>
    intro i hi
    rw [rpT]
    by_cases e : btw (c i) 48 57
    · rw [if_pos e]; exact rpD_good hc hi e
    · rw [if_neg e]; exact rpV_good hc hi
  | succ k ih =>
    intro i hi
    rw [rpT]
    by_cases e : btw (c i) 48 57
    · rw [if_pos e]; exact rpD_good hc hi e
    · rw [if_neg e]
      by_cases e2 : c i = 40
      · rw [if_pos e2]
        have h40 := hc.lt (show ¬ c i = -1 by rw [e2]; decide)
        have h := rpE_good hc ih (i := i + 1) (by omega)
        generalize rpE c (rpT c k) (i + 1) = r at h
        rcases r with p | ⟨j, f, l⟩
        · exact GP_le h (by omega)
        · show GP i (if c j = 41 then .inr (j + 1, f, l) else .inl j)
          obtain ⟨a1, a2, a3, a4, a5⟩ := h
          by_cases e3 : c j = 41
          · rw [if_pos e3]
            have := hc.lt (show ¬ c j = -1 by rw [e3]; decide)
            exact ⟨by omega, by omega, by omega, a4, a5⟩
          · rw [if_neg e3]
            exact ⟨by omega, a3⟩
      · rw [if_neg e2]; exact rpV_good hc hi
