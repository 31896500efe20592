/-! ===== frames: what a run leaves as it was ===== -/
abbrev Fw : Type := List (Nat × Nat) × List Nat
def fw_f (o k : Nat) : List (Nat × Nat) → Bool
  | [] => false
  | q :: l => cond (Nat.beq q.1 o && Nat.beq q.2 k) true (fw_f o k l)
def fw_a (o : Nat) : List Nat → Bool
  | [] => false
  | q :: l => cond (Nat.beq q o) true (fw_a o l)
def fw_sf : List (Nat × Nat) → List (Nat × Nat) → Bool
  | [], _ => true
  | q :: l, w => fw_f q.1 q.2 w && fw_sf l w
def fw_sa : List Nat → List Nat → Bool
  | [], _ => true
  | q :: l, w => fw_a q w && fw_sa l w
def fw_sub (w w' : Fw) : Bool := fw_sf w.1 w'.1 && fw_sa w.2 w'.2
/-- the model's text that is read -/
def R15 (V V' : ai_V) : Prop := gr V' 89 15 = gr V 89 15 ∨ gr V' 89 15 = some 96 ∨ gr V' 89 15 = some 99
theorem R15.tr {V V1 V2 : ai_V} (h : R15 V V1) (h' : R15 V1 V2) : R15 V V2 := by
  unfold R15 at *
  rcases h' with h' | h' | h'
  · rw [h']; exact h
  · exact Or.inr (Or.inl h')
  · exact Or.inr (Or.inr h')
def Fr (w : Fw) (V V' : ai_V) : Prop :=
  (∀ o k, fw_f o k w.1 = false → gi V' o k = gi V o k ∧ gj V' o k = gj V o k ∧ gr V' o k = gr V o k) ∧ (∀ o, fw_a o w.2 = false → ga V' o = ga V o ∧ gl V' o = gl V o) ∧ R15 V V'
theorem fw_sf_mem : ∀ {l w : List (Nat × Nat)} {o k : Nat}, fw_sf l w = true → fw_f o k w = false → fw_f o k l = false := by
  intro l
  induction l with
  | nil => intro w o k _ _; rfl
  | cons q l ih =>
    intro w o k h hf
    rw [fw_sf, Bool.and_eq_true] at h
    rw [fw_f]
    cases hq : (Nat.beq q.1 o && Nat.beq q.2 k) with
    | false => exact ih h.2 hf
    | true =>
      rw [Bool.and_eq_true] at hq
      have e1 := Nat.eq_of_beq_eq_true hq.1
      have e2 := Nat.eq_of_beq_eq_true hq.2
      rw [e1, e2, hf] at h
      exact absurd h.1 (by decide)
theorem fw_sa_mem : ∀ {l w : List Nat} {o : Nat}, fw_sa l w = true → fw_a o w = false → fw_a o l = false := by
  intro l
  induction l with
  | nil => intro w o _ _; rfl
  | cons q l ih =>
    intro w o h hf
    rw [fw_sa, Bool.and_eq_true] at h
    rw [fw_a]
    cases hq : Nat.beq q o with
    | false => exact ih h.2 hf
    | true =>
      have e1 := Nat.eq_of_beq_eq_true hq
      rw [e1, hf] at h
      exact absurd h.1 (by decide)
theorem Fr.rf {w : Fw} {V : ai_V} : Fr w V V := ⟨fun _ _ _ => ⟨rfl, rfl, rfl⟩, fun _ _ => ⟨rfl, rfl⟩, Or.inl rfl⟩
theorem Fr.tr {w w' : Fw} {V V1 V2 : ai_V} (h : Fr w V V1) (h' : Fr w' V1 V2) (hs : fw_sub w' w = true) : Fr w V V2 := by
  rw [fw_sub, Bool.and_eq_true] at hs
  refine ⟨fun o k hf => ?_, fun o hf => ?_, h.2.2.tr h'.2.2⟩
  · obtain ⟨a1, a2, a3⟩ := h.1 o k hf
    obtain ⟨b1, b2, b3⟩ := h'.1 o k (fw_sf_mem hs.1 hf)
    exact ⟨b1.trans a1, b2.trans a2, b3.trans a3⟩
  · obtain ⟨a1, a2⟩ := h.2.1 o hf
    obtain ⟨b1, b2⟩ := h'.2.1 o (fw_sa_mem hs.2 hf)
    exact ⟨b1.trans a1, b2.trans a2⟩
theorem fw_f_ne {o k o' k' : Nat} {l : List (Nat × Nat)} (h : fw_f o k l = true) (h' : fw_f o' k' l = false) : ¬ (o' = o ∧ k' = k) := by
  rintro ⟨rfl, rfl⟩
  rw [h] at h'; cases h'
theorem fw_a_ne {o o' : Nat} {l : List Nat} (h : fw_a o l = true) (h' : fw_a o' l = false) : ¬ o' = o := by
  rintro rfl
  rw [h] at h'; cases h'
theorem Fr.si {w : Fw} {V V1 : ai_V} {o k : Nat} {x : Int32} (h : Fr w V V1) (hm : fw_f o k w.1 = true) : Fr w V (si V1 o k x) := by
  refine ⟨fun o' k' hf => ?_, fun o' hf => h.2.1 o' hf, h.2.2⟩
  obtain ⟨a1, a2, a3⟩ := h.1 o' k' hf
  have hn := fw_f_ne hm hf
  refine ⟨?_, a2, a3⟩
  show ai_u V1.1 o k x o' k' = _
  unfold ai_u
  by_cases e : o' = o
  · rw [if_pos e, if_neg (fun e2 => hn ⟨e, e2⟩)]; exact a1
  · rw [if_neg e]; exact a1
theorem Fr.sj {w : Fw} {V V1 : ai_V} {o k : Nat} {x : Int64} (h : Fr w V V1) (hm : fw_f o k w.1 = true) : Fr w V (sj V1 o k x) := by
  refine ⟨fun o' k' hf => ?_, fun o' hf => h.2.1 o' hf, h.2.2⟩
  obtain ⟨a1, a2, a3⟩ := h.1 o' k' hf
  have hn := fw_f_ne hm hf
  refine ⟨a1, ?_, a3⟩
  show ai_u V1.2.1 o k x o' k' = _
  unfold ai_u
  by_cases e : o' = o
  · rw [if_pos e, if_neg (fun e2 => hn ⟨e, e2⟩)]; exact a2
  · rw [if_neg e]; exact a2
theorem Fr.sr {w : Fw} {V V1 : ai_V} {o k : Nat} {x : Option Nat} (h : Fr w V V1) (hm : fw_f o k w.1 = true) (hx : x = some 96 ∨ x = some 99 ∨ o ≠ 89) : Fr w V (sr V1 o k x) := by
  refine ⟨fun o' k' hf => ?_, fun o' hf => h.2.1 o' hf, ?_⟩
  · obtain ⟨a1, a2, a3⟩ := h.1 o' k' hf
    have hn := fw_f_ne hm hf
    refine ⟨a1, a2, ?_⟩
    show ai_u V1.2.2.2.2 o k x o' k' = _
    unfold ai_u
    by_cases e : o' = o
    · rw [if_pos e, if_neg (fun e2 => hn ⟨e, e2⟩)]; exact a3
    · rw [if_neg e]; exact a3
  · refine h.2.2.tr ?_
    show ai_u V1.2.2.2.2 o k x 89 15 = _ ∨ ai_u V1.2.2.2.2 o k x 89 15 = _ ∨ ai_u V1.2.2.2.2 o k x 89 15 = _
    unfold ai_u
    by_cases e : 89 = o
    · by_cases e2 : 15 = k
      · rw [if_pos e, if_pos e2]
        rcases hx with hx | hx | hx
        · exact Or.inr (Or.inl hx)
        · exact Or.inr (Or.inr hx)
        · exact absurd e.symm hx
      · rw [if_pos e, if_neg e2]; exact Or.inl rfl
    · rw [if_neg e]; exact Or.inl rfl
theorem Fr.sa {w : Fw} {V V1 : ai_V} {o k : Nat} {x : Int32} (h : Fr w V V1) (hm : fw_a o w.2 = true) : Fr w V (sa V1 o k x) := by
  refine ⟨fun o' k' hf => h.1 o' k' hf, fun o' hf => ?_, h.2.2⟩
  obtain ⟨a1, a2⟩ := h.2.1 o' hf
  refine ⟨?_, a2⟩
  rw [← a1]
  funext k'
  show ai_u V1.2.2.1 o k x o' k' = _
  unfold ai_u
  rw [if_neg (fw_a_ne hm hf)]; rfl
theorem Fr.sl {w : Fw} {V V1 : ai_V} {o k : Nat} {x : Int64} (h : Fr w V V1) (hm : fw_a o w.2 = true) : Fr w V (sl V1 o k x) := by
  refine ⟨fun o' k' hf => h.1 o' k' hf, fun o' hf => ?_, h.2.2⟩
  obtain ⟨a1, a2⟩ := h.2.1 o' hf
  refine ⟨a1, ?_⟩
  rw [← a2]
  funext k'
  show ai_u V1.2.2.2.1 o k x o' k' = _
  unfold ai_u
  rw [if_neg (fw_a_ne hm hf)]; rfl
theorem Fr.cp {w : Fw} {V V1 : ai_V} {o r sp dp n : Nat} (h : Fr w V V1) (hm : fw_a r w.2 = true) : Fr w V (ai_cpy V1 o r sp dp n) := by
  refine ⟨fun o' k' hf => h.1 o' k' hf, fun o' hf => ?_, h.2.2⟩
  obtain ⟨a1, a2⟩ := h.2.1 o' hf
  refine ⟨?_, a2⟩
  rw [← a1]
  funext k'
  show (if o' = r then va_cpy (V1.2.2.1 o) (V1.2.2.1 r) sp dp n else V1.2.2.1 o') k' = _
  rw [if_neg (fw_a_ne hm hf)]; rfl
theorem Fr.z {w : Fw} {V V1 : ai_V} {o : Nat} (h : Fr w V V1) (hm : fw_a o w.2 = true) : Fr w V (ai_z V1 o) := by
  refine ⟨fun o' k' hf => h.1 o' k' hf, fun o' hf => ?_, h.2.2⟩
  obtain ⟨a1, a2⟩ := h.2.1 o' hf
  have hn := fw_a_ne hm hf
  refine ⟨?_, ?_⟩
  · rw [← a1]
    funext k'
    show (if o' = o then 0 else V1.2.2.1 o' k') = _
    rw [if_neg hn]; rfl
  · rw [← a2]
    funext k'
    show (if o' = o then 0 else V1.2.2.2.1 o' k') = _
    rw [if_neg hn]; rfl
theorem Fr.al0 {w : Fw} {V V1 : ai_V} (h : Fr w V V1) (hm : fw_a 119 w.2 = true) (hm' : fw_f 64 2 w.1 = true) : Fr w V (ai_al0 V1) := Fr.sr (Fr.z h hm) hm' (Or.inr (Or.inr (by decide)))
theorem Fr.gi {w : Fw} {V V' : ai_V} (h : Fr w V V') (o k : Nat) (hf : fw_f o k w.1 = false) : gi V' o k = gi V o k := (h.1 o k hf).1
theorem Fr.gj {w : Fw} {V V' : ai_V} (h : Fr w V V') (o k : Nat) (hf : fw_f o k w.1 = false) : gj V' o k = gj V o k := (h.1 o k hf).2.1
theorem Fr.gr {w : Fw} {V V' : ai_V} (h : Fr w V V') (o k : Nat) (hf : fw_f o k w.1 = false) : gr V' o k = gr V o k := (h.1 o k hf).2.2
theorem Fr.ga {w : Fw} {V V' : ai_V} (h : Fr w V V') (o : Nat) (hf : fw_a o w.2 = false) : ga V' o = ga V o := (h.2.1 o hf).1
theorem Fr.gl {w : Fw} {V V' : ai_V} (h : Fr w V V') (o : Nat) (hf : fw_a o w.2 = false) : gl V' o = gl V o := (h.2.1 o hf).2
/-! reads behind writes -/
theorem gi_si (V : ai_V) (o k o' k' : Nat) (x : Int32) : gi (si V o k x) o' k' = if o' = o ∧ k' = k then x else gi V o' k' := by
  show ai_u V.1 o k x o' k' = _
  unfold ai_u
  by_cases e : o' = o
  · by_cases e2 : k' = k
    · rw [if_pos e, if_pos e2, if_pos ⟨e, e2⟩]
    · rw [if_pos e, if_neg e2, if_neg (fun h => e2 h.2)]; rfl
  · rw [if_neg e, if_neg (fun h => e h.1)]; rfl
theorem ga_sa (V : ai_V) (o k o' k' : Nat) (x : Int32) : ga (sa V o k x) o' k' = if o' = o ∧ k' = k then x else ga V o' k' := by
  show ai_u V.2.2.1 o k x o' k' = _
  unfold ai_u
  by_cases e : o' = o
  · by_cases e2 : k' = k
    · rw [if_pos e, if_pos e2, if_pos ⟨e, e2⟩]
    · rw [if_pos e, if_neg e2, if_neg (fun h => e2 h.2)]; rfl
  · rw [if_neg e, if_neg (fun h => e h.1)]; rfl
theorem gl_sl (V : ai_V) (o k o' k' : Nat) (x : Int64) : gl (sl V o k x) o' k' = if o' = o ∧ k' = k then x else gl V o' k' := by
  show ai_u V.2.2.2.1 o k x o' k' = _
  unfold ai_u
  by_cases e : o' = o
  · by_cases e2 : k' = k
    · rw [if_pos e, if_pos e2, if_pos ⟨e, e2⟩]
    · rw [if_pos e, if_neg e2, if_neg (fun h => e2 h.2)]; rfl
  · rw [if_neg e, if_neg (fun h => e h.1)]; rfl
theorem gj_sj (V : ai_V) (o k o' k' : Nat) (x : Int64) : gj (sj V o k x) o' k' = if o' = o ∧ k' = k then x else gj V o' k' := by
  show ai_u V.2.1 o k x o' k' = _
  unfold ai_u
  by_cases e : o' = o
  · by_cases e2 : k' = k
    · rw [if_pos e, if_pos e2, if_pos ⟨e, e2⟩]
    · rw [if_pos e, if_neg e2, if_neg (fun h => e2 h.2)]; rfl
  · rw [if_neg e, if_neg (fun h => e h.1)]; rfl
theorem gr_sr (V : ai_V) (o k o' k' : Nat) (x : Option Nat) : gr (sr V o k x) o' k' = if o' = o ∧ k' = k then x else gr V o' k' := by
  show ai_u V.2.2.2.2 o k x o' k' = _
  unfold ai_u
  by_cases e : o' = o
  · by_cases e2 : k' = k
    · rw [if_pos e, if_pos e2, if_pos ⟨e, e2⟩]
    · rw [if_pos e, if_neg e2, if_neg (fun h => e2 h.2)]; rfl
  · rw [if_neg e, if_neg (fun h => e h.1)]; rfl
theorem gi_sj (V : ai_V) (o k o' k' : Nat) (x : Int64) : gi (sj V o k x) o' k' = gi V o' k' := rfl
theorem gi_sa (V : ai_V) (o k o' k' : Nat) (x : Int32) : gi (sa V o k x) o' k' = gi V o' k' := rfl
theorem gi_sl (V : ai_V) (o k o' k' : Nat) (x : Int64) : gi (sl V o k x) o' k' = gi V o' k' := rfl
theorem gi_sr (V : ai_V) (o k o' k' : Nat) (x : Option Nat) : gi (sr V o k x) o' k' = gi V o' k' := rfl
theorem ga_si (V : ai_V) (o k o' : Nat) (x : Int32) : ga (si V o k x) o' = ga V o' := rfl
theorem ga_sj (V : ai_V) (o k o' : Nat) (x : Int64) : ga (sj V o k x) o' = ga V o' := rfl
theorem ga_sl (V : ai_V) (o k o' : Nat) (x : Int64) : ga (sl V o k x) o' = ga V o' := rfl
theorem ga_sr (V : ai_V) (o k o' : Nat) (x : Option Nat) : ga (sr V o k x) o' = ga V o' := rfl
theorem gl_si (V : ai_V) (o k o' : Nat) (x : Int32) : gl (si V o k x) o' = gl V o' := rfl
theorem gl_sa (V : ai_V) (o k o' : Nat) (x : Int32) : gl (sa V o k x) o' = gl V o' := rfl
theorem gl_sr (V : ai_V) (o k o' : Nat) (x : Option Nat) : gl (sr V o k x) o' = gl V o' := rfl
theorem gl_sj (V : ai_V) (o k o' : Nat) (x : Int64) : gl (sj V o k x) o' = gl V o' := rfl
theorem gj_si (V : ai_V) (o k o' k' : Nat) (x : Int32) : gj (si V o k x) o' k' = gj V o' k' := rfl
theorem gr_si (V : ai_V) (o k o' k' : Nat) (x : Int32) : gr (si V o k x) o' k' = gr V o' k' := rfl
theorem gr_sa (V : ai_V) (o k o' k' : Nat) (x : Int32) : gr (sa V o k x) o' k' = gr V o' k' := rfl
theorem gr_sl (V : ai_V) (o k o' k' : Nat) (x : Int64) : gr (sl V o k x) o' k' = gr V o' k' := rfl
theorem gr_sj (V : ai_V) (o k o' k' : Nat) (x : Int64) : gr (sj V o k x) o' k' = gr V o' k' := rfl
theorem ga_sa_ne {V : ai_V} {o o' k : Nat} {x : Int32} (h : o' ≠ o) : ga (sa V o k x) o' = ga V o' := by
  funext k'
  rw [ga_sa, if_neg (fun e => h e.1)]
theorem gl_sl_ne {V : ai_V} {o o' k : Nat} {x : Int64} (h : o' ≠ o) : gl (sl V o k x) o' = gl V o' := by
  funext k'
  rw [gl_sl, if_neg (fun e => h e.1)]
