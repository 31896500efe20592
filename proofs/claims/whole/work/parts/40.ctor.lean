/-! ===== the two constructors: what is made, and the numbers behind them ===== -/
def ai_sameE : va_E → va_E → Bool
  | .inr (c, fs), .inr (c', fs') => Nat.beq c c' && decide (fs = fs')
  | .inl (t, n, .inl _), .inl (t', n', .inl _) => Nat.beq t t' && Nat.beq n n'
  | .inl (t, n, .inr (.inl _)), .inl (t', n', .inr (.inl _)) => Nat.beq t t' && Nat.beq n n'
  | .inl (t, n, .inr (.inr (.inr (.inr f)))), .inl (t', n', .inr (.inr (.inr (.inr g)))) => Nat.beq t t' && Nat.beq n n' && (List.range n).all (fun j => decide (f j = g j))
  | _, _ => false
def ai_same : ai_S → ai_S → Bool
  | [], [] => true
  | a :: S, b :: T => ai_sameE a b && ai_same S T
  | _, _ => false
theorem ai_sameE_ce {E : Nat → ClassId} {r : Nat → Nat} {V : ai_V} {o : Nat} {a b : va_E} (h : ai_sameE a b = true) : ai_ce E r V o a = ai_ce E r V o b := by
  unfold ai_sameE at h
  split at h
  · simp only [Bool.and_eq_true, decide_eq_true_eq] at h
    rw [Nat.eq_of_beq_eq_true h.1, h.2]
  · simp only [Bool.and_eq_true] at h
    rw [Nat.eq_of_beq_eq_true h.1, Nat.eq_of_beq_eq_true h.2]
    rfl
  · simp only [Bool.and_eq_true] at h
    rw [Nat.eq_of_beq_eq_true h.1, Nat.eq_of_beq_eq_true h.2]
    rfl
  · rename_i t n f t' n' g
    simp only [Bool.and_eq_true] at h
    obtain ⟨⟨h1, h2⟩, h3⟩ := h
    have e1 := Nat.eq_of_beq_eq_true h1
    have e2 := Nat.eq_of_beq_eq_true h2
    subst e1
    subst e2
    simp only [ai_ce]
    congr 7
    funext j
    by_cases hj : j < n
    · have := of_decide_eq_true (List.all_eq_true.mp h3 j (List.mem_range.mpr hj))
      rw [if_pos hj, if_pos hj, this]
    · rw [if_neg hj, if_neg hj]
  · cases h
theorem ai_same_w {E : Nat → ClassId} {r : Nat → Nat} {V : ai_V} {S T : ai_S} (h : ai_same S T = true) : ai_w E r V S = ai_w E r V T := by
  have key : ∀ (S T : ai_S) (k : Nat), ai_same S T = true → (S.mapIdx (fun o e => (r (k + o), ai_ce E r V (k + o) e))) = (T.mapIdx (fun o e => (r (k + o), ai_ce E r V (k + o) e))) := by
    intro S
    induction S with
    | nil =>
      intro T k h
      cases T with
      | nil => rfl
      | cons b T => cases h
    | cons a S ih =>
      intro T k h
      cases T with
      | nil => cases h
      | cons b T =>
        rw [ai_same, Bool.and_eq_true] at h
        rw [List.mapIdx_cons, List.mapIdx_cons, ai_sameE_ce h.1]
        congr 1
        have := ih T (k + 1) h.2
        simpa [Nat.add_assoc, Nat.add_comm 1] using this
  have := key S T 0 h
  simpa [ai_w] using this
def V00 : ai_V := (fun _ _ => 0, fun _ _ => 0, fun _ _ => 0, fun _ _ => 0, fun _ _ => none)
def kints : List (Nat × Nat × Int32) := [(1, 1, 0), (3, 0, 0), (3, 1, 2), (3, 2, 0), (10, 1, 0), (10, 6, 0), (10, 7, 0), (15, 2, 0), (15, 3, 0), (15, 4, 0), (15, 5, 0), (16, 0, 0), (16, 1, 0), (16, 2, 50), (19, 0, 0), (19, 1, 0), (19, 2, 999), (22, 1, 0), (24, 1, 0), (24, 2, 0), (26, 0, 0), (26, 1, 0), (26, 2, 999), (29, 0, 0), (29, 1, 0), (29, 2, 999), (32, 0, 0), (32, 1, 0), (32, 2, 999), (35, 0, 0), (35, 1, 0), (35, 2, 999), (38, 0, 0), (38, 1, 0), (38, 2, 999), (41, 0, 0), (41, 1, 0), (41, 2, 999), (44, 0, 0), (44, 1, 0), (44, 2, 999), (47, 0, 0), (47, 1, 0), (47, 2, 999), (50, 0, 0), (50, 1, 0), (50, 2, 999), (53, 0, 0), (53, 1, 0), (53, 2, 999), (56, 0, 0), (56, 1, 0), (56, 2, 999), (59, 0, 0), (59, 1, 0), (59, 2, 999), (64, 3, 0), (64, 4, 0), (64, 5, 0), (64, 6, 0), (65, 0, 0), (65, 1, 0), (65, 2, 999), (69, 2, 0), (72, 0, 0), (72, 1, 0), (72, 7, 0), (78, 1, 0), (78, 3, 0), (83, 0, 0), (83, 1, 0), (83, 2, 999), (86, 0, 0), (86, 1, 0), (86, 2, 999), (89, 1, 0), (89, 7, 0), (89, 8, 50), (89, 9, 2), (89, 11, 0), (89, 13, 0), (89, 14, 0), (89, 16, 0), (89, 17, 0), (89, 18, 0), (89, 19, 0), (89, 22, 0), (89, 23, 0), (89, 24, 0), (89, 25, 0), (89, 26, 0), (89, 27, 0), (89, 28, 0), (89, 29, 0), (89, 30, (-1)), (89, 31, (-1)), (89, 32, 0), (89, 33, 0), (89, 35, 0), (89, 38, 0), (89, 43, 0), (89, 46, 0), (89, 49, 0), (89, 52, 0), (89, 55, 0), (89, 58, 0)]
def karrs : List (Nat × Nat) := [(2, 80), (4, 6), (5, 6), (6, 6), (7, 72), (8, 6), (9, 6), (11, 40), (12, 7), (13, 40), (14, 40), (17, 6), (18, 6), (20, 6), (21, 6), (27, 6), (28, 6), (30, 6), (31, 6), (33, 6), (34, 6), (36, 6), (37, 6), (39, 6), (40, 6), (42, 6), (43, 6), (45, 6), (46, 6), (48, 6), (49, 6), (51, 6), (52, 6), (54, 6), (55, 6), (57, 6), (58, 6), (60, 6), (61, 6), (66, 6), (67, 6), (68, 0), (70, 6), (71, 6), (73, 4), (74, 4), (75, 16), (76, 4), (77, 4), (79, 22), (80, 12), (81, 12), (82, 6), (84, 6), (85, 6), (87, 6), (88, 6), (90, 14), (91, 6), (92, 6), (93, 6), (94, 72), (95, 6), (96, 80), (98, 96), (99, 40), (100, 168), (101, 14), (102, 80), (103, 14), (105, 6), (106, 6), (107, 16), (108, 16), (109, 4), (110, 4), (111, 4), (112, 4), (113, 8), (114, 24), (115, 28), (116, 2), (117, 2)]
def kv_chk (V : ai_V) : Bool := kints.all (fun q => decide (gi V q.1 q.2.1 = q.2.2)) && karrs.all (fun q => (List.range q.2).all (fun i => decide (ga V q.1 i = 0))) && decide (ga V 63 0 = -1) && decide (ga V 63 1 = -1) && decide (gr V 64 2 = some 68) && decide (gr V 89 15 = none)
def kctor1 : Option (Option Value × ai_S × ai_V) := ai_run 4000 20 93 0 (lv_args 0 [.ref 0]) [] [.inr (11, ai_F 11)] (ai_zf V00 0)
def kctor2 (S : ai_S) (V : ai_V) : Option (Option Value × ai_S × ai_V) := ai_run 4000 20 156 0 (lv_args 0 [.ref 89]) [] (S ++ [.inr (12, ai_F 12)]) (ai_zf V S.length)
def kctor : Bool := match kctor1 with
  | some (none, S1, V1) => Nat.beq S1.length 89 && (match kctor2 S1 V1 with
    | some (none, S2, V2) => ai_same (S2 ++ [.inl (1, 1, .inr (.inl (fun _ => 0)))]) SH && kv_chk (ai_z V2 118)
    | _ => false)
  | _ => false
set_option maxRecDepth 100000 in
theorem kctor_ok : kctor = true := by decide +kernel
