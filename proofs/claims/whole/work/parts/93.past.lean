/-! ===== undo, quarter ===== -/
def wSv : Fw := ([(24, 1), (24, 2), (26, 0), (26, 1), (29, 0), (29, 1), (32, 0), (32, 1), (35, 0), (35, 1), (38, 0), (38, 1), (41, 0), (41, 1), (44, 0), (44, 1), (47, 0), (47, 1), (50, 0), (50, 1), (53, 0), (53, 1), (56, 0), (56, 1), (59, 0), (59, 1)], [27, 28, 30, 31, 33, 34, 36, 37, 39, 40, 42, 43, 45, 46, 48, 49, 51, 52, 54, 55, 57, 58, 60, 61])
def d_Past_takeBack_t (V : ai_V) : Option (Int32 × ai_V) := (if gi V 24 2 = (0 : Int32) then ((d_State_becomes_16_26 V).bind fun q => some ((1 : Int32), q)) else (if gi V 24 2 = (1 : Int32) then ((d_State_becomes_16_29 V).bind fun q => some ((1 : Int32), q)) else (if gi V 24 2 = (2 : Int32) then ((d_State_becomes_16_32 V).bind fun q => some ((1 : Int32), q)) else (if gi V 24 2 = (3 : Int32) then ((d_State_becomes_16_35 V).bind fun q => some ((1 : Int32), q)) else (if gi V 24 2 = (4 : Int32) then ((d_State_becomes_16_38 V).bind fun q => some ((1 : Int32), q)) else (if gi V 24 2 = (5 : Int32) then ((d_State_becomes_16_41 V).bind fun q => some ((1 : Int32), q)) else (if gi V 24 2 = (6 : Int32) then ((d_State_becomes_16_44 V).bind fun q => some ((1 : Int32), q)) else (if gi V 24 2 = (7 : Int32) then ((d_State_becomes_16_47 V).bind fun q => some ((1 : Int32), q)) else (if gi V 24 2 = (8 : Int32) then ((d_State_becomes_16_50 V).bind fun q => some ((1 : Int32), q)) else (if gi V 24 2 = (9 : Int32) then ((d_State_becomes_16_53 V).bind fun q => some ((1 : Int32), q)) else (if gi V 24 2 = (10 : Int32) then ((d_State_becomes_16_56 V).bind fun q => some ((1 : Int32), q)) else (if gi V 24 2 = (11 : Int32) then ((d_State_becomes_16_59 V).bind fun q => some ((1 : Int32), q)) else none))))))))))))
theorem takeBack_def (V : ai_V) : d_Past_takeBack V = if ¬ (gi V 24 1) = 0 then d_Past_takeBack_t (si (si V 24 2 ((((gi V 24 2) + (12 : Int32)) - (1 : Int32)) - (((gi V 24 2) + (12 : Int32)) - (1 : Int32)) / (12 : Int32) * (12 : Int32))) 24 1 ((gi (si V 24 2 ((((gi V 24 2) + (12 : Int32)) - (1 : Int32)) - (((gi V 24 2) + (12 : Int32)) - (1 : Int32)) / (12 : Int32) * (12 : Int32))) 24 1) - (1 : Int32))) else some ((0 : Int32), V) := rfl
def d_Past_save_t (q : ai_V) : Option ai_V := some (si (si q 24 2 (((gi q 24 2) + (1 : Int32)) - ((gi q 24 2) + (1 : Int32)) / (12 : Int32) * (12 : Int32))) 24 1 (ai_min ((gi (si q 24 2 (((gi q 24 2) + (1 : Int32)) - ((gi q 24 2) + (1 : Int32)) / (12 : Int32) * (12 : Int32))) 24 1) + (1 : Int32)) (12 : Int32)))
theorem save_def (V : ai_V) : d_Past_save V = (if gi V 24 2 = (0 : Int32) then ((d_State_becomes_26_16 V).bind fun q => d_Past_save_t q) else (if gi V 24 2 = (1 : Int32) then ((d_State_becomes_29_16 V).bind fun q => d_Past_save_t q) else (if gi V 24 2 = (2 : Int32) then ((d_State_becomes_32_16 V).bind fun q => d_Past_save_t q) else (if gi V 24 2 = (3 : Int32) then ((d_State_becomes_35_16 V).bind fun q => d_Past_save_t q) else (if gi V 24 2 = (4 : Int32) then ((d_State_becomes_38_16 V).bind fun q => d_Past_save_t q) else (if gi V 24 2 = (5 : Int32) then ((d_State_becomes_41_16 V).bind fun q => d_Past_save_t q) else (if gi V 24 2 = (6 : Int32) then ((d_State_becomes_44_16 V).bind fun q => d_Past_save_t q) else (if gi V 24 2 = (7 : Int32) then ((d_State_becomes_47_16 V).bind fun q => d_Past_save_t q) else (if gi V 24 2 = (8 : Int32) then ((d_State_becomes_50_16 V).bind fun q => d_Past_save_t q) else (if gi V 24 2 = (9 : Int32) then ((d_State_becomes_53_16 V).bind fun q => d_Past_save_t q) else (if gi V 24 2 = (10 : Int32) then ((d_State_becomes_56_16 V).bind fun q => d_Past_save_t q) else (if gi V 24 2 = (11 : Int32) then ((d_State_becomes V).bind fun q => d_Past_save_t q) else none)))))))))))) := rfl
theorem becs_to {V : ai_V} {z : Ss} {rm : Int32} {j : Nat} (hj : j < 12) (hz : cS z V (26 + 3 * j)) (hr : gi V 16 2 = rm) (h2 : gi V 24 2 = on j) :
    ∃ V', d_Past_takeBack_t V = some (1, V') ∧ cS (z.1, ai_min z.2.1 rm, z.2.2.1, z.2.2.2) V' 16 ∧ Fr ([(16, 0), (16, 1)], [17, 18]) V V' := by
  unfold d_Past_takeBack_t
  rw [h2]
  rcases (show j = 0 ∨ j = 1 ∨ j = 2 ∨ j = 3 ∨ j = 4 ∨ j = 5 ∨ j = 6 ∨ j = 7 ∨ j = 8 ∨ j = 9 ∨ j = 10 ∨ j = 11 by omega) with e | e | e | e | e | e | e | e | e | e | e | e <;> subst e
  · obtain ⟨V', e, c, F⟩ := bec_16_26 hz hr
    exact ⟨V', by rw [if_pos (by decide), e]; rfl, c, F⟩
  · obtain ⟨V', e, c, F⟩ := bec_16_29 hz hr
    exact ⟨V', by rw [if_neg (by decide), if_pos (by decide), e]; rfl, c, F⟩
  · obtain ⟨V', e, c, F⟩ := bec_16_32 hz hr
    exact ⟨V', by rw [if_neg (by decide), if_neg (by decide), if_pos (by decide), e]; rfl, c, F⟩
  · obtain ⟨V', e, c, F⟩ := bec_16_35 hz hr
    exact ⟨V', by rw [if_neg (by decide), if_neg (by decide), if_neg (by decide), if_pos (by decide), e]; rfl, c, F⟩
  · obtain ⟨V', e, c, F⟩ := bec_16_38 hz hr
    exact ⟨V', by rw [if_neg (by decide), if_neg (by decide), if_neg (by decide), if_neg (by decide), if_pos (by decide), e]; rfl, c, F⟩
  · obtain ⟨V', e, c, F⟩ := bec_16_41 hz hr
    exact ⟨V', by rw [if_neg (by decide), if_neg (by decide), if_neg (by decide), if_neg (by decide), if_neg (by decide), if_pos (by decide), e]; rfl, c, F⟩
  · obtain ⟨V', e, c, F⟩ := bec_16_44 hz hr
    exact ⟨V', by rw [if_neg (by decide), if_neg (by decide), if_neg (by decide), if_neg (by decide), if_neg (by decide), if_neg (by decide), if_pos (by decide), e]; rfl, c, F⟩
  · obtain ⟨V', e, c, F⟩ := bec_16_47 hz hr
    exact ⟨V', by rw [if_neg (by decide), if_neg (by decide), if_neg (by decide), if_neg (by decide), if_neg (by decide), if_neg (by decide), if_neg (by decide), if_pos (by decide), e]; rfl, c, F⟩
  · obtain ⟨V', e, c, F⟩ := bec_16_50 hz hr
    exact ⟨V', by rw [if_neg (by decide), if_neg (by decide), if_neg (by decide), if_neg (by decide), if_neg (by decide), if_neg (by decide), if_neg (by decide), if_neg (by decide), if_pos (by decide), e]; rfl, c, F⟩
  · obtain ⟨V', e, c, F⟩ := bec_16_53 hz hr
    exact ⟨V', by rw [if_neg (by decide), if_neg (by decide), if_neg (by decide), if_neg (by decide), if_neg (by decide), if_neg (by decide), if_neg (by decide), if_neg (by decide), if_neg (by decide), if_pos (by decide), e]; rfl, c, F⟩
  · obtain ⟨V', e, c, F⟩ := bec_16_56 hz hr
    exact ⟨V', by rw [if_neg (by decide), if_neg (by decide), if_neg (by decide), if_neg (by decide), if_neg (by decide), if_neg (by decide), if_neg (by decide), if_neg (by decide), if_neg (by decide), if_neg (by decide), if_pos (by decide), e]; rfl, c, F⟩
  · obtain ⟨V', e, c, F⟩ := bec_16_59 hz hr
    exact ⟨V', by rw [if_neg (by decide), if_neg (by decide), if_neg (by decide), if_neg (by decide), if_neg (by decide), if_neg (by decide), if_neg (by decide), if_neg (by decide), if_neg (by decide), if_neg (by decide), if_neg (by decide), if_pos (by decide), e]; rfl, c, F⟩
theorem save_t {V : ai_V} {p x : Nat} (hp : p ≤ 12) (hx : x < 12) (h1 : gi V 24 1 = on p) (h2 : gi V 24 2 = on x) : ∃ V', d_Past_save_t V = some V' ∧ gi V' 24 1 = on (min (p + 1) 12) ∧ gi V' 24 2 = on ((x + 1) % 12) ∧ Fr ([(24, 1), (24, 2)], []) V V' := by
  refine ⟨_, rfl, ?_, ?_, Fr.si (Fr.si Fr.rf rfl) rfl⟩
  · rw [gi_si, if_pos ⟨rfl, rfl⟩, gi_si, if_neg (by decide), h1, on_s, show (12 : Int32) = on 12 from rfl, min_on (by omega) (by omega)]
  · rw [gi_si, if_neg (by decide), gi_si, if_pos ⟨rfl, rfl⟩, h2, on_s, show (12 : Int32) = on 12 from rfl, on_mod (by omega) (by omega)]
theorem sv_gen (j i : Nat) (h : j ≠ i) : fw_f (26 + 3 * j) 0 [(26 + 3 * i, 0), (26 + 3 * i, 1), (24, 1), (24, 2)] = false ∧ fw_f (26 + 3 * j) 1 [(26 + 3 * i, 0), (26 + 3 * i, 1), (24, 1), (24, 2)] = false ∧ fw_a (26 + 3 * j + 1) [26 + 3 * i + 1, 26 + 3 * i + 2] = false ∧ fw_a (26 + 3 * j + 2) [26 + 3 * i + 1, 26 + 3 * i + 2] = false := by
  have nb : ∀ a b : Nat, a ≠ b → Nat.beq a b = false := fun a b hn => by
    cases hq : Nat.beq a b with
    | false => rfl
    | true => exact absurd (Nat.eq_of_beq_eq_true hq) hn
  simp only [fw_f, fw_a]
  rw [nb (26 + 3 * i) (26 + 3 * j) (by omega), nb 24 (26 + 3 * j) (by omega), nb (26 + 3 * i + 1) (26 + 3 * j + 1) (by omega), nb (26 + 3 * i + 2) (26 + 3 * j + 1) (by omega), nb (26 + 3 * i + 1) (26 + 3 * j + 2) (by omega), nb (26 + 3 * i + 2) (26 + 3 * j + 2) (by omega)]
  simp
theorem sv_26 : ∀ j, j < 12 ∧ j ≠ 0 → fw_f (26 + 3 * j) 0 [(26, 0), (26, 1), (24, 1), (24, 2)] = false ∧ fw_f (26 + 3 * j) 1 [(26, 0), (26, 1), (24, 1), (24, 2)] = false ∧ fw_a (26 + 3 * j + 1) [27, 28] = false ∧ fw_a (26 + 3 * j + 2) [27, 28] = false := fun j hj => sv_gen j 0 hj.2
theorem sv_29 : ∀ j, j < 12 ∧ j ≠ 1 → fw_f (26 + 3 * j) 0 [(29, 0), (29, 1), (24, 1), (24, 2)] = false ∧ fw_f (26 + 3 * j) 1 [(29, 0), (29, 1), (24, 1), (24, 2)] = false ∧ fw_a (26 + 3 * j + 1) [30, 31] = false ∧ fw_a (26 + 3 * j + 2) [30, 31] = false := fun j hj => sv_gen j 1 hj.2
theorem sv_32 : ∀ j, j < 12 ∧ j ≠ 2 → fw_f (26 + 3 * j) 0 [(32, 0), (32, 1), (24, 1), (24, 2)] = false ∧ fw_f (26 + 3 * j) 1 [(32, 0), (32, 1), (24, 1), (24, 2)] = false ∧ fw_a (26 + 3 * j + 1) [33, 34] = false ∧ fw_a (26 + 3 * j + 2) [33, 34] = false := fun j hj => sv_gen j 2 hj.2
theorem sv_35 : ∀ j, j < 12 ∧ j ≠ 3 → fw_f (26 + 3 * j) 0 [(35, 0), (35, 1), (24, 1), (24, 2)] = false ∧ fw_f (26 + 3 * j) 1 [(35, 0), (35, 1), (24, 1), (24, 2)] = false ∧ fw_a (26 + 3 * j + 1) [36, 37] = false ∧ fw_a (26 + 3 * j + 2) [36, 37] = false := fun j hj => sv_gen j 3 hj.2
theorem sv_38 : ∀ j, j < 12 ∧ j ≠ 4 → fw_f (26 + 3 * j) 0 [(38, 0), (38, 1), (24, 1), (24, 2)] = false ∧ fw_f (26 + 3 * j) 1 [(38, 0), (38, 1), (24, 1), (24, 2)] = false ∧ fw_a (26 + 3 * j + 1) [39, 40] = false ∧ fw_a (26 + 3 * j + 2) [39, 40] = false := fun j hj => sv_gen j 4 hj.2
theorem sv_41 : ∀ j, j < 12 ∧ j ≠ 5 → fw_f (26 + 3 * j) 0 [(41, 0), (41, 1), (24, 1), (24, 2)] = false ∧ fw_f (26 + 3 * j) 1 [(41, 0), (41, 1), (24, 1), (24, 2)] = false ∧ fw_a (26 + 3 * j + 1) [42, 43] = false ∧ fw_a (26 + 3 * j + 2) [42, 43] = false := fun j hj => sv_gen j 5 hj.2
theorem sv_44 : ∀ j, j < 12 ∧ j ≠ 6 → fw_f (26 + 3 * j) 0 [(44, 0), (44, 1), (24, 1), (24, 2)] = false ∧ fw_f (26 + 3 * j) 1 [(44, 0), (44, 1), (24, 1), (24, 2)] = false ∧ fw_a (26 + 3 * j + 1) [45, 46] = false ∧ fw_a (26 + 3 * j + 2) [45, 46] = false := fun j hj => sv_gen j 6 hj.2
theorem sv_47 : ∀ j, j < 12 ∧ j ≠ 7 → fw_f (26 + 3 * j) 0 [(47, 0), (47, 1), (24, 1), (24, 2)] = false ∧ fw_f (26 + 3 * j) 1 [(47, 0), (47, 1), (24, 1), (24, 2)] = false ∧ fw_a (26 + 3 * j + 1) [48, 49] = false ∧ fw_a (26 + 3 * j + 2) [48, 49] = false := fun j hj => sv_gen j 7 hj.2
theorem sv_50 : ∀ j, j < 12 ∧ j ≠ 8 → fw_f (26 + 3 * j) 0 [(50, 0), (50, 1), (24, 1), (24, 2)] = false ∧ fw_f (26 + 3 * j) 1 [(50, 0), (50, 1), (24, 1), (24, 2)] = false ∧ fw_a (26 + 3 * j + 1) [51, 52] = false ∧ fw_a (26 + 3 * j + 2) [51, 52] = false := fun j hj => sv_gen j 8 hj.2
theorem sv_53 : ∀ j, j < 12 ∧ j ≠ 9 → fw_f (26 + 3 * j) 0 [(53, 0), (53, 1), (24, 1), (24, 2)] = false ∧ fw_f (26 + 3 * j) 1 [(53, 0), (53, 1), (24, 1), (24, 2)] = false ∧ fw_a (26 + 3 * j + 1) [54, 55] = false ∧ fw_a (26 + 3 * j + 2) [54, 55] = false := fun j hj => sv_gen j 9 hj.2
theorem sv_56 : ∀ j, j < 12 ∧ j ≠ 10 → fw_f (26 + 3 * j) 0 [(56, 0), (56, 1), (24, 1), (24, 2)] = false ∧ fw_f (26 + 3 * j) 1 [(56, 0), (56, 1), (24, 1), (24, 2)] = false ∧ fw_a (26 + 3 * j + 1) [57, 58] = false ∧ fw_a (26 + 3 * j + 2) [57, 58] = false := fun j hj => sv_gen j 10 hj.2
theorem sv_59 : ∀ j, j < 12 ∧ j ≠ 11 → fw_f (26 + 3 * j) 0 [(59, 0), (59, 1), (24, 1), (24, 2)] = false ∧ fw_f (26 + 3 * j) 1 [(59, 0), (59, 1), (24, 1), (24, 2)] = false ∧ fw_a (26 + 3 * j + 1) [60, 61] = false ∧ fw_a (26 + 3 * j + 2) [60, 61] = false := fun j hj => sv_gen j 11 hj.2
theorem save_eq {V : ai_V} {z : Ss} {p x : Nat} (hp : p ≤ 12) (hx : x < 12) (h1 : gi V 24 1 = on p) (h2 : gi V 24 2 = on x) (hz : cS z V 16) (hr : ∀ j, j < 12 → gi V (26 + 3 * j) 2 = 999) (hl : z.2.1.toInt ≤ 999) :
    ∃ V', d_Past_save V = some V' ∧ gi V' 24 1 = on (min (p + 1) 12) ∧ gi V' 24 2 = on ((x + 1) % 12) ∧ cS z V' (26 + 3 * x) ∧ (∀ j, j < 12 → j ≠ x → ∀ y, cS y V (26 + 3 * j) → cS y V' (26 + 3 * j)) ∧ Fr wSv V V' := by
  rw [save_def, h2]
  have hrx := hr x hx
  rcases (show x = 0 ∨ x = 1 ∨ x = 2 ∨ x = 3 ∨ x = 4 ∨ x = 5 ∨ x = 6 ∨ x = 7 ∨ x = 8 ∨ x = 9 ∨ x = 10 ∨ x = 11 by omega) with e | e | e | e | e | e | e | e | e | e | e | e <;> subst e
  · obtain ⟨V1, e, c, F⟩ := bec_26_16 hz hrx
    rw [zm999 hl] at c
    obtain ⟨V2, e2, g1, g2, F2⟩ := save_t hp (show 0 < 12 by omega) (by rw [F.gi 24 1 rfl]; exact h1) (by rw [F.gi 24 2 rfl]; exact h2)
    have FF : Fr ([(26, 0), (26, 1), (24, 1), (24, 2)], [27, 28]) V V2 := Fr.tr (Fr.tr Fr.rf F rfl) F2 rfl
    refine ⟨V2, by rw [if_pos (by decide), e, bd_some, e2], g1, g2, c.fr F2 rfl rfl rfl rfl, fun j hj hn y hy => ?_, Fr.tr Fr.rf FF rfl⟩
    have t := sv_26 j ⟨hj, hn⟩
    exact hy.fr FF t.1 t.2.1 t.2.2.1 t.2.2.2
  · obtain ⟨V1, e, c, F⟩ := bec_29_16 hz hrx
    rw [zm999 hl] at c
    obtain ⟨V2, e2, g1, g2, F2⟩ := save_t hp (show 1 < 12 by omega) (by rw [F.gi 24 1 rfl]; exact h1) (by rw [F.gi 24 2 rfl]; exact h2)
    have FF : Fr ([(29, 0), (29, 1), (24, 1), (24, 2)], [30, 31]) V V2 := Fr.tr (Fr.tr Fr.rf F rfl) F2 rfl
    refine ⟨V2, by rw [if_neg (by decide), if_pos (by decide), e, bd_some, e2], g1, g2, c.fr F2 rfl rfl rfl rfl, fun j hj hn y hy => ?_, Fr.tr Fr.rf FF rfl⟩
    have t := sv_29 j ⟨hj, hn⟩
    exact hy.fr FF t.1 t.2.1 t.2.2.1 t.2.2.2
  · obtain ⟨V1, e, c, F⟩ := bec_32_16 hz hrx
    rw [zm999 hl] at c
    obtain ⟨V2, e2, g1, g2, F2⟩ := save_t hp (show 2 < 12 by omega) (by rw [F.gi 24 1 rfl]; exact h1) (by rw [F.gi 24 2 rfl]; exact h2)
    have FF : Fr ([(32, 0), (32, 1), (24, 1), (24, 2)], [33, 34]) V V2 := Fr.tr (Fr.tr Fr.rf F rfl) F2 rfl
    refine ⟨V2, by rw [if_neg (by decide), if_neg (by decide), if_pos (by decide), e, bd_some, e2], g1, g2, c.fr F2 rfl rfl rfl rfl, fun j hj hn y hy => ?_, Fr.tr Fr.rf FF rfl⟩
    have t := sv_32 j ⟨hj, hn⟩
    exact hy.fr FF t.1 t.2.1 t.2.2.1 t.2.2.2
  · obtain ⟨V1, e, c, F⟩ := bec_35_16 hz hrx
    rw [zm999 hl] at c
    obtain ⟨V2, e2, g1, g2, F2⟩ := save_t hp (show 3 < 12 by omega) (by rw [F.gi 24 1 rfl]; exact h1) (by rw [F.gi 24 2 rfl]; exact h2)
    have FF : Fr ([(35, 0), (35, 1), (24, 1), (24, 2)], [36, 37]) V V2 := Fr.tr (Fr.tr Fr.rf F rfl) F2 rfl
    refine ⟨V2, by rw [if_neg (by decide), if_neg (by decide), if_neg (by decide), if_pos (by decide), e, bd_some, e2], g1, g2, c.fr F2 rfl rfl rfl rfl, fun j hj hn y hy => ?_, Fr.tr Fr.rf FF rfl⟩
    have t := sv_35 j ⟨hj, hn⟩
    exact hy.fr FF t.1 t.2.1 t.2.2.1 t.2.2.2
  · obtain ⟨V1, e, c, F⟩ := bec_38_16 hz hrx
    rw [zm999 hl] at c
    obtain ⟨V2, e2, g1, g2, F2⟩ := save_t hp (show 4 < 12 by omega) (by rw [F.gi 24 1 rfl]; exact h1) (by rw [F.gi 24 2 rfl]; exact h2)
    have FF : Fr ([(38, 0), (38, 1), (24, 1), (24, 2)], [39, 40]) V V2 := Fr.tr (Fr.tr Fr.rf F rfl) F2 rfl
    refine ⟨V2, by rw [if_neg (by decide), if_neg (by decide), if_neg (by decide), if_neg (by decide), if_pos (by decide), e, bd_some, e2], g1, g2, c.fr F2 rfl rfl rfl rfl, fun j hj hn y hy => ?_, Fr.tr Fr.rf FF rfl⟩
    have t := sv_38 j ⟨hj, hn⟩
    exact hy.fr FF t.1 t.2.1 t.2.2.1 t.2.2.2
  · obtain ⟨V1, e, c, F⟩ := bec_41_16 hz hrx
    rw [zm999 hl] at c
    obtain ⟨V2, e2, g1, g2, F2⟩ := save_t hp (show 5 < 12 by omega) (by rw [F.gi 24 1 rfl]; exact h1) (by rw [F.gi 24 2 rfl]; exact h2)
    have FF : Fr ([(41, 0), (41, 1), (24, 1), (24, 2)], [42, 43]) V V2 := Fr.tr (Fr.tr Fr.rf F rfl) F2 rfl
    refine ⟨V2, by rw [if_neg (by decide), if_neg (by decide), if_neg (by decide), if_neg (by decide), if_neg (by decide), if_pos (by decide), e, bd_some, e2], g1, g2, c.fr F2 rfl rfl rfl rfl, fun j hj hn y hy => ?_, Fr.tr Fr.rf FF rfl⟩
    have t := sv_41 j ⟨hj, hn⟩
    exact hy.fr FF t.1 t.2.1 t.2.2.1 t.2.2.2
  · obtain ⟨V1, e, c, F⟩ := bec_44_16 hz hrx
    rw [zm999 hl] at c
    obtain ⟨V2, e2, g1, g2, F2⟩ := save_t hp (show 6 < 12 by omega) (by rw [F.gi 24 1 rfl]; exact h1) (by rw [F.gi 24 2 rfl]; exact h2)
    have FF : Fr ([(44, 0), (44, 1), (24, 1), (24, 2)], [45, 46]) V V2 := Fr.tr (Fr.tr Fr.rf F rfl) F2 rfl
    refine ⟨V2, by rw [if_neg (by decide), if_neg (by decide), if_neg (by decide), if_neg (by decide), if_neg (by decide), if_neg (by decide), if_pos (by decide), e, bd_some, e2], g1, g2, c.fr F2 rfl rfl rfl rfl, fun j hj hn y hy => ?_, Fr.tr Fr.rf FF rfl⟩
    have t := sv_44 j ⟨hj, hn⟩
    exact hy.fr FF t.1 t.2.1 t.2.2.1 t.2.2.2
  · obtain ⟨V1, e, c, F⟩ := bec_47_16 hz hrx
    rw [zm999 hl] at c
    obtain ⟨V2, e2, g1, g2, F2⟩ := save_t hp (show 7 < 12 by omega) (by rw [F.gi 24 1 rfl]; exact h1) (by rw [F.gi 24 2 rfl]; exact h2)
    have FF : Fr ([(47, 0), (47, 1), (24, 1), (24, 2)], [48, 49]) V V2 := Fr.tr (Fr.tr Fr.rf F rfl) F2 rfl
    refine ⟨V2, by rw [if_neg (by decide), if_neg (by decide), if_neg (by decide), if_neg (by decide), if_neg (by decide), if_neg (by decide), if_neg (by decide), if_pos (by decide), e, bd_some, e2], g1, g2, c.fr F2 rfl rfl rfl rfl, fun j hj hn y hy => ?_, Fr.tr Fr.rf FF rfl⟩
    have t := sv_47 j ⟨hj, hn⟩
    exact hy.fr FF t.1 t.2.1 t.2.2.1 t.2.2.2
  · obtain ⟨V1, e, c, F⟩ := bec_50_16 hz hrx
    rw [zm999 hl] at c
    obtain ⟨V2, e2, g1, g2, F2⟩ := save_t hp (show 8 < 12 by omega) (by rw [F.gi 24 1 rfl]; exact h1) (by rw [F.gi 24 2 rfl]; exact h2)
    have FF : Fr ([(50, 0), (50, 1), (24, 1), (24, 2)], [51, 52]) V V2 := Fr.tr (Fr.tr Fr.rf F rfl) F2 rfl
    refine ⟨V2, by rw [if_neg (by decide), if_neg (by decide), if_neg (by decide), if_neg (by decide), if_neg (by decide), if_neg (by decide), if_neg (by decide), if_neg (by decide), if_pos (by decide), e, bd_some, e2], g1, g2, c.fr F2 rfl rfl rfl rfl, fun j hj hn y hy => ?_, Fr.tr Fr.rf FF rfl⟩
    have t := sv_50 j ⟨hj, hn⟩
    exact hy.fr FF t.1 t.2.1 t.2.2.1 t.2.2.2
  · obtain ⟨V1, e, c, F⟩ := bec_53_16 hz hrx
    rw [zm999 hl] at c
    obtain ⟨V2, e2, g1, g2, F2⟩ := save_t hp (show 9 < 12 by omega) (by rw [F.gi 24 1 rfl]; exact h1) (by rw [F.gi 24 2 rfl]; exact h2)
    have FF : Fr ([(53, 0), (53, 1), (24, 1), (24, 2)], [54, 55]) V V2 := Fr.tr (Fr.tr Fr.rf F rfl) F2 rfl
    refine ⟨V2, by rw [if_neg (by decide), if_neg (by decide), if_neg (by decide), if_neg (by decide), if_neg (by decide), if_neg (by decide), if_neg (by decide), if_neg (by decide), if_neg (by decide), if_pos (by decide), e, bd_some, e2], g1, g2, c.fr F2 rfl rfl rfl rfl, fun j hj hn y hy => ?_, Fr.tr Fr.rf FF rfl⟩
    have t := sv_53 j ⟨hj, hn⟩
    exact hy.fr FF t.1 t.2.1 t.2.2.1 t.2.2.2
  · obtain ⟨V1, e, c, F⟩ := bec_56_16 hz hrx
    rw [zm999 hl] at c
    obtain ⟨V2, e2, g1, g2, F2⟩ := save_t hp (show 10 < 12 by omega) (by rw [F.gi 24 1 rfl]; exact h1) (by rw [F.gi 24 2 rfl]; exact h2)
    have FF : Fr ([(56, 0), (56, 1), (24, 1), (24, 2)], [57, 58]) V V2 := Fr.tr (Fr.tr Fr.rf F rfl) F2 rfl
    refine ⟨V2, by rw [if_neg (by decide), if_neg (by decide), if_neg (by decide), if_neg (by decide), if_neg (by decide), if_neg (by decide), if_neg (by decide), if_neg (by decide), if_neg (by decide), if_neg (by decide), if_pos (by decide), e, bd_some, e2], g1, g2, c.fr F2 rfl rfl rfl rfl, fun j hj hn y hy => ?_, Fr.tr Fr.rf FF rfl⟩
    have t := sv_56 j ⟨hj, hn⟩
    exact hy.fr FF t.1 t.2.1 t.2.2.1 t.2.2.2
  · obtain ⟨V1, e, c, F⟩ := bec_59_16 hz hrx
    rw [zm999 hl] at c
    obtain ⟨V2, e2, g1, g2, F2⟩ := save_t hp (show 11 < 12 by omega) (by rw [F.gi 24 1 rfl]; exact h1) (by rw [F.gi 24 2 rfl]; exact h2)
    have FF : Fr ([(59, 0), (59, 1), (24, 1), (24, 2)], [60, 61]) V V2 := Fr.tr (Fr.tr Fr.rf F rfl) F2 rfl
    refine ⟨V2, by rw [if_neg (by decide), if_neg (by decide), if_neg (by decide), if_neg (by decide), if_neg (by decide), if_neg (by decide), if_neg (by decide), if_neg (by decide), if_neg (by decide), if_neg (by decide), if_neg (by decide), if_pos (by decide), e, bd_some, e2], g1, g2, c.fr F2 rfl rfl rfl rfl, fun j hj hn y hy => ?_, Fr.tr Fr.rf FF rfl⟩
    have t := sv_59 j ⟨hj, hn⟩
    exact hy.fr FF t.1 t.2.1 t.2.2.1 t.2.2.2
theorem M_undo26 {V : ai_V} {z : Ss} {rm : Int32} {p : Nat} (hp : p < 12) (h35 : gi V 89 35 = on p) (hz : mS z V 100 (14 * p)) (hr : gi V 89 8 = rm) :
    ∃ V1, d_M_undo_26 ai_N 0 V = some (on p, V1) ∧ mS (z.1, ai_min z.2.1 rm, z.2.2.1, z.2.2.2) V1 90 0 ∧ Fr ([], [90]) V V1 := by
  have := loop_n (fun n (_ : Unit) y V => d_M_undo_26 n y V) (fun c : Int32 × ai_V => some c) (fun k _ V' => (∀ j, j < k → ga V' 90 j = ga V 100 (14 * p + j)) ∧ Fr ([], [90]) V V') (fun c => c.1 = on p ∧ mS (z.1, ai_min z.2.1 rm, z.2.2.1, z.2.2.2) c.2 90 0 ∧ Fr ([], [90]) V c.2) 14 ?_ ?_ 14 0 ai_N () V (by omega) (N_gt (by omega)) ⟨fun j hj => by omega, Fr.rf⟩
  · obtain ⟨⟨c1, c2⟩, e, q1, q⟩ := this
    simp only at q1
    subst q1
    exact ⟨c2, e, q⟩
  · rintro n a k V1 hk ⟨a1, hF⟩
    show ∃ (_ : Unit) (V' : ai_V), d_M_undo_26 (n + 1) (on k) V1 = _ ∧ _
    rw [d_M_undo_26, hF.gi 89 35 rfl, h35, show (14 : Int32) = on 14 from rfl, if_neg (by rw [on_le (by omega) (by omega)]; omega), on_mul, on_add, if_pos (by rw [on_in (by omega)]; omega), if_pos (by rw [on_in (by omega)]; omega), on_nn (by omega), on_nn (by omega), on_s]
    refine ⟨(), _, rfl, fun j hj => ?_, Fr.sa hF rfl⟩
    rw [ga_sa]
    by_cases e : j = k
    · rw [if_pos ⟨rfl, e⟩, e, hF.ga 100 rfl]
    · rw [if_neg (by omega)]; exact a1 j (by omega)
  · rintro n a V1 ⟨a1, hF⟩
    show ∃ c : Int32 × ai_V, d_M_undo_26 (n + 1) (on 14) V1 = _ ∧ _
    have a12 := a1 12 (by omega)
    obtain ⟨z1, z2, z3⟩ := hz
    rw [d_M_undo_26, if_pos (by decide), show ((12 : Int32)).toNatClampNeg = 12 from rfl, a12, z2, hF.gi 89 8 rfl, hr, gi_sa, hF.gi 89 35 rfl, h35]
    refine ⟨_, rfl, rfl, ⟨?_, ?_, fun j hj => ⟨?_, ?_⟩⟩, Fr.sa hF rfl⟩
    · rw [Nat.zero_add, ga_sa, if_neg (by omega), a1 13 (by omega)]; exact z1
    · rw [Nat.zero_add, ga_sa, if_pos ⟨rfl, rfl⟩]
    · rw [Nat.zero_add, ga_sa, if_neg (by omega), a1 _ (by omega)]; exact (z3 j hj).1
    · rw [Nat.zero_add, ga_sa, if_neg (by omega), a1 _ (by omega)]; exact (z3 j hj).2
theorem un_f : ∀ j, j < 12 → fw_f (26 + 3 * j) 0 [(24, 2), (24, 1), (16, 0), (16, 1), (89, 14), (89, 35)] = false ∧ fw_f (26 + 3 * j) 1 [(24, 2), (24, 1), (16, 0), (16, 1), (89, 14), (89, 35)] = false ∧ fw_a (26 + 3 * j + 1) [17, 18, 90] = false ∧ fw_a (26 + 3 * j + 2) [17, 18, 90] = false := by decide +kernel
theorem st_undo {N : Nat} {V : ai_V} (hI : Inv N V) (hN : N < 512) : Step N V d_X_undo d_M_undo := by
  have hI0 := hI
  obtain ⟨h, f, z, rm, h1, h2, h3, ⟨s1, s2, s3, s4, s5, s6, s7, s8⟩, h5, ⟨p, x, p1, p2, p3, p4, p5, p6, p7⟩, h7, h8, h9, h10⟩ := hI
  by_cases e0 : p = 0
  · subst e0
    refine ⟨-1, V, si V 89 14 0, ?_, ?_, hI0.no 0⟩
    · rw [d_X_undo, takeBack_def, p3, if_neg (fun hn => hn rfl), bd_some, if_pos rfl]
    · rw [d_M_undo, m14 _ _ 89 35 (by decide), p5, if_neg (fun hn => hn rfl)]
  · obtain ⟨y, y1, y2, y3⟩ := p7 (p - 1) (by omega)
    have hxx : (x + 12 - p + (p - 1)) % 12 = (x + 11) % 12 := by omega
    rw [hxx] at y2
    have z24 : (gi V 24 2 + 12 - 1) - (gi V 24 2 + 12 - 1) / 12 * 12 = on ((x + 11) % 12) := by
      rw [p4, show (12 : Int32) = on 12 from rfl, show (1 : Int32) = on 1 from rfl, on_add, on_sub (by omega), on_mod (by omega) (by omega)]; rfl
    have p24 : on p - (1 : Int32) = on (p - 1) := by rw [show (1 : Int32) = on 1 from rfl, on_sub (by omega)]
    have FV : Fr ([(24, 2), (24, 1)], []) V (si (si V 24 2 (on ((x + 11) % 12))) 24 1 (on (p - 1))) := Fr.si (Fr.si Fr.rf rfl) rfl
    have y2' : cS y (si (si V 24 2 (on ((x + 11) % 12))) 24 1 (on (p - 1))) (26 + 3 * ((x + 11) % 12)) := by
      have hne : 26 + 3 * ((x + 11) % 12) ≠ 24 := by omega
      refine ⟨?_, ?_, ?_⟩
      · rw [gi_si, if_neg (fun hc => hne hc.1), gi_si, if_neg (fun hc => hne hc.1)]; exact y2.1
      · rw [gi_si, if_neg (fun hc => hne hc.1), gi_si, if_neg (fun hc => hne hc.1)]; exact y2.2.1
      · exact y2.2.2
    obtain ⟨V1, e1, d1, F1⟩ := becs_to (rm := rm) (Nat.mod_lt _ (by decide)) y2' (by rw [FV.gi 16 2 rfl]; exact s4) (by rw [gi_si, if_neg (by decide), gi_si, if_pos ⟨rfl, rfl⟩])
    have FV1 : Fr ([(24, 2), (24, 1), (16, 0), (16, 1)], [17, 18]) V V1 := Fr.tr (Fr.tr Fr.rf FV rfl) F1 rfl
    have FM : Fr ([(24, 2), (24, 1), (16, 0), (16, 1), (89, 14), (89, 35)], [17, 18]) V (si (si V1 89 14 0) 89 35 (on (p - 1))) := Fr.si (Fr.si (Fr.tr Fr.rf FV1 rfl) rfl) rfl
    obtain ⟨V2, e2, m1, F2⟩ := M_undo26 (rm := rm) (V := si (si V1 89 14 0) 89 35 (on (p - 1))) (p := p - 1) (by omega) (by rw [gi_si, if_pos ⟨rfl, rfl⟩]) (y3.fr FM rfl) (by rw [FM.gi 89 8 rfl]; exact s5)
    have F : Fr ([(24, 2), (24, 1), (16, 0), (16, 1), (89, 14), (89, 35)], [17, 18, 90]) V V2 := Fr.tr (Fr.tr Fr.rf FM rfl) F2 rfl
    have F12 : Fr ([(89, 14), (89, 35)], [90]) V1 V2 := Fr.tr (Fr.si (Fr.si Fr.rf rfl) rfl) F2 rfl
    have cut := y1.cut s6
    have g1 : gi V1 24 1 = on (p - 1) := by rw [F1.gi 24 1 rfl, gi_si, if_pos ⟨rfl, rfl⟩]
    refine ⟨on (p - 1), V1, V2, ?_, ?_, h, f, (y.1, ai_min y.2.1 rm, y.2.2.1, y.2.2.2), rm, h1.sm (Sm.of F rfl), h2.sm (Sm.of F rfl), h3.sm (Sm.of F rfl), ⟨cut.1, d1.fr F12 rfl rfl rfl rfl, m1, by rw [F.gi 16 2 rfl]; exact s4, by rw [F.gi 89 8 rfl]; exact s5, s6, s7, cut.2⟩, h5.sm (Sm.of F rfl), ?_, h7.sm (Sm.of F rfl) (by omega), h8.sm (Sm.of F rfl), h9.sm (Sm.of F rfl), h10.sm (Sm.of F rfl)⟩
    · rw [d_X_undo, takeBack_def, if_pos (by rw [p3, on_z (by omega)]; exact e0), z24, gi_si, if_neg (by decide), p3, p24, e1, bd_some, if_neg (show ¬ (1 : Int32) = 0 by decide)]
      show some (gi V1 24 1, V1) = _
      rw [g1]
    · have hp35 : gi (si V1 89 14 0) 89 35 = on p := by rw [m14 _ _ 89 35 (by decide), FV1.gi 89 35 rfl, p5]
      rw [d_M_undo, hp35, if_pos (by rw [on_z (by omega)]; exact e0), p24, e2]
    · refine ⟨p - 1, (x + 11) % 12, by omega, Nat.mod_lt _ (by decide), by rw [F12.gi 24 1 rfl]; exact g1, ?_, ?_, ?_, fun e he => ?_⟩
      · rw [F12.gi 24 2 rfl, F1.gi 24 2 rfl, gi_si, if_neg (by decide), gi_si, if_pos ⟨rfl, rfl⟩]
      · rw [F2.gi 89 35 rfl, gi_si, if_pos ⟨rfl, rfl⟩]
      · intro j hj
        have t := (Sm.of (c := ((List.range 12).map (fun j => (26 + 3 * j, 2)), [])) F rfl).i (26 + 3 * j) 2
        rw [t (IP2_f j hj)]; exact p6 j hj
      · obtain ⟨w, w1, w2, w3⟩ := p7 e (by omega)
        refine ⟨w, w1.mono (by omega), ?_, w3.fr F rfl⟩
        rw [show ((x + 11) % 12 + 12 - (p - 1) + e) % 12 = (x + 12 - p + e) % 12 by omega]
        have hq : (x + 12 - p + e) % 12 < 12 := Nat.mod_lt _ (by decide)
        generalize (x + 12 - p + e) % 12 = j at hq w2 ⊢
        have t := un_f j hq
        exact w2.fr F t.1 t.2.1 t.2.2.1 t.2.2.2
