/-! ===== behind the constructors ===== -/
def kcut (o : Nat) : Option Nat := (karrs.find? (fun q => Nat.beq q.1 o)).map (fun q => q.2)
/-- the numbers, and 0 where no cell is -/
def Vc (V : ai_V) : ai_V := (V.1, V.2.1, fun o i => match kcut o with
  | some n => if i < n then V.2.2.1 o i else 0
  | none => V.2.2.1 o i, V.2.2.2)
def kshk : ai_S → Nat → Bool
  | [], _ => true
  | .inl (_, n, .inl _) :: S, o => (match kcut o with
    | some k => Nat.ble n k
    | none => true) && kshk S (o + 1)
  | _ :: S, o => kshk S (o + 1)
theorem kshk_ok : kshk SH 0 = true := by decide +kernel
theorem kshk_at : ∀ (S : ai_S) (o k t n c : Nat) (f : Nat → Int32), kshk S o = true → S[k]? = some (.inl (t, n, .inl f)) → kcut (o + k) = some c → n ≤ c := by
  intro S
  induction S with
  | nil => intro o k t n c f _ h; simp at h
  | cons a S ih =>
    intro o k t n c f h hk hc
    cases k with
    | zero =>
      simp only [List.getElem?_cons_zero, Option.some.injEq] at hk
      subst hk
      rw [kshk, Bool.and_eq_true] at h
      rw [Nat.add_zero] at hc
      rw [hc] at h
      exact Nat.le_of_ble_eq_true h.1
    | succ k =>
      rw [List.getElem?_cons_succ] at hk
      refine ih (o + 1) k t n c f ?_ hk (by rw [show o + 1 + k = o + (k + 1) by omega]; exact hc)
      unfold kshk at h
      split at h
      · rename_i h'; cases h'
      · rename_i h'
        cases h'
        rw [Bool.and_eq_true] at h
        exact h.2
      · rename_i h'
        cases h'
        exact h
theorem arrV_cg {cA : ClassId} {n : Nat} {f g : Nat → Value} (h : ∀ j, j < n → f j = g j) : arrV cA n f = arrV cA n g := by
  unfold arrV
  congr 2
  funext j
  exact h j.val j.isLt
theorem Wd_cut {D : va_G} {E : Nat → ClassId} {r : Nat → Nat} {A : Nat → Prop} {s : State} {H : Heap} {locs : List Loc} {V : ai_V} (h : ai_Wd D E r A s H locs SH V) : ai_Wd D E r A s H locs SH (Vc V) := by
  obtain ⟨h1, h2, h3, h4, h5⟩ := h
  refine ⟨h1, h2, fun k q hk => ?_, ⟨fun i j p q hp hq e => ?_, fun k q hk => ?_⟩, h5⟩
  · rw [ai_w_get] at hk
    cases hS : SH[k]? with
    | none => rw [hS] at hk; cases hk
    | some a =>
      rw [hS] at hk
      obtain rfl := Option.some.inj hk
      have hV := h3 k (r k, ai_ce E r V k a) (by rw [ai_w_get, hS]; rfl)
      match a, hS, hV with
      | .inr (ci, fs), _, hV => exact hV
      | .inl (t, n, .inl f), hS, hV =>
        have e : vp_cell (E t) (n, .inl ((Vc V).2.2.1 k)) = vp_cell (E t) (n, .inl (V.2.2.1 k)) := by
          rw [vp_cell_i, vp_cell_i]
          refine arrV_cg (fun j hj => ?_)
          show Value.int (match kcut k with
            | some n => if j < n then V.2.2.1 k j else 0
            | none => V.2.2.1 k j) = _
          cases hc : kcut k with
          | none => rfl
          | some c =>
            have := kshk_at SH 0 k t n c f kshk_ok hS (by rw [Nat.zero_add]; exact hc)
            show Value.int (if j < c then V.2.2.1 k j else 0) = _
            rw [if_pos (by omega)]
        show H[r k]? = some (vp_cell (E t) (n, .inl ((Vc V).2.2.1 k)))
        rw [e]; exact hV
      | .inl (t, n, .inr (.inl f)), _, hV => exact hV
      | .inl (t, n, .inr (.inr (.inl f))), _, hV => exact hV
      | .inl (t, n, .inr (.inr (.inr (.inl f)))), _, hV => exact hV
      | .inl (t, n, .inr (.inr (.inr (.inr f)))), _, hV => exact hV
  · rw [ai_w_get] at hp hq
    cases hS : SH[i]? with
    | none => rw [hS] at hp; cases hp
    | some a =>
      cases hT : SH[j]? with
      | none => rw [hT] at hq; cases hq
      | some c =>
        rw [hS] at hp
        rw [hT] at hq
        obtain rfl := Option.some.inj hp
        obtain rfl := Option.some.inj hq
        exact h4.1 i j (r i, ai_ce E r V i a) (r j, ai_ce E r V j c) (by rw [ai_w_get, hS]; rfl) (by rw [ai_w_get, hT]; rfl) e
  · rw [ai_w_get] at hk
    cases hS : SH[k]? with
    | none => rw [hS] at hk; cases hk
    | some a =>
      rw [hS] at hk
      obtain rfl := Option.some.inj hk
      exact h4.2 k (r k, ai_ce E r V k a) (by rw [ai_w_get, hS]; rfl)
def h00 : Hs := (0, 2, 0, fun _ => 0, fun _ => 0, fun _ => 0, fun _ => 0, fun _ => 0)
def z00 : Ss := (0, 0, fun _ => 0, fun _ => 0)
theorem inv0 {V : ai_V} (h : kv_chk V = true) : Inv 0 (Vc V) ∧ gr (Vc V) 64 2 = some 68 := by
  rw [kv_chk] at h
  simp only [Bool.and_eq_true, decide_eq_true_eq, List.all_eq_true] at h
  obtain ⟨⟨⟨⟨⟨h1, h2⟩, h3⟩, h4⟩, h5⟩, h6⟩ := h
  have gI : ∀ (o k : Nat) (x : Int32), (o, k, x) ∈ kints → gi (Vc V) o k = x := fun o k x hm => h1 (o, k, x) hm
  have gA' : ∀ (o n : Nat), (o, n) ∈ karrs → kcut o = some n → ga (Vc V) o = fun _ => 0 := by
    intro o n hm hk
    funext i
    show (match kcut o with
      | some n => if i < n then V.2.2.1 o i else 0
      | none => V.2.2.1 o i) = 0
    rw [hk]
    show (if i < n then V.2.2.1 o i else 0) = 0
    by_cases e : i < n
    · rw [if_pos e]; exact h2 (o, n) hm i (List.mem_range.mpr e)
    · rw [if_neg e]
  have g63 : ∀ i, ga (Vc V) 63 i = ga V 63 i := fun i => rfl
  have g64 : gr (Vc V) 64 2 = some 68 := h5
  have e0 : (0 : Int32).toInt = 0 := rfl
  refine ⟨⟨h00, fun t p w l n q y => t * (w + 1) / 4, z00, 50, ?_, ?_, ?_, ?_, ?_, ?_, ?_, ?_, ?_, ?_⟩, g64⟩
  · refine ⟨0, by omega, gI 1 1 0 (by decide +kernel), gI 89 11 0 (by decide +kernel), fun i => ?_⟩
    rw [gA' 96 80 (by decide +kernel) (by decide +kernel), gA' 2 80 (by decide +kernel) (by decide +kernel)]
    exact ⟨show (0 : Int32) = sx 0 by decide, show (0 : Int) ≤ (0 : Int32).toInt by decide, show (0 : Int32).toInt ≤ 255 by decide⟩
  · refine ⟨⟨by decide, ⟨by decide, by decide⟩, fun i hi => absurd hi (Nat.not_lt_zero i)⟩, ⟨gI 3 0 0 (by decide +kernel), gI 3 1 2 (by decide +kernel), gI 3 2 0 (by decide +kernel), gA' 4 6 (by decide +kernel) (by decide +kernel), gA' 5 6 (by decide +kernel) (by decide +kernel), gA' 6 6 (by decide +kernel) (by decide +kernel), gA' 7 72 (by decide +kernel) (by decide +kernel), gA' 8 6 (by decide +kernel) (by decide +kernel)⟩, ⟨gI 89 1 0 (by decide +kernel), gI 89 9 2 (by decide +kernel), gI 89 7 0 (by decide +kernel), gA' 91 6 (by decide +kernel) (by decide +kernel), gA' 92 6 (by decide +kernel) (by decide +kernel), gA' 93 6 (by decide +kernel) (by decide +kernel), gA' 94 72 (by decide +kernel) (by decide +kernel), gA' 95 6 (by decide +kernel) (by decide +kernel)⟩, fun i hi => ?_, fun i _ => rfl, 0, by decide, rfl⟩
    have : (ordL (hst h00) (hm h00)).length = 0 := rfl
    omega
  · refine ⟨fun V' e3 e4 => ?_, Or.inl ⟨by rw [gI 89 22 0 (by decide +kernel)]; decide, fun _ _ _ _ _ _ _ => rfl⟩⟩
    have q1 := gI 10 1 0 (by decide +kernel)
    have e5 : d_Rule_reckoned_4 (19999 + 1) 0 0 V' = some (clp (ga V' 12 0 * (ga V' 12 2 + 1) / 4), V') := by
      rw [d_Rule_reckoned_4, e3, q1, if_pos (by decide), if_neg (fun h => h rfl), d_Rule_reckoned_196]; rfl
    exact ⟨V', e5⟩
  · refine ⟨⟨⟨by decide, by decide⟩, ⟨by decide, by decide⟩, fun k _ => ⟨⟨show -(63 * (0 : Int32).toInt) ≤ (0 : Int32).toInt by decide, show (0 : Int32).toInt ≤ 63 * (0 : Int32).toInt by decide⟩, fun _ => ⟨rfl, rfl⟩⟩⟩, ⟨gI 16 0 0 (by decide +kernel), gI 16 1 0 (by decide +kernel), fun k _ => ?_⟩, ?_, gI 16 2 50 (by decide +kernel), gI 89 8 50 (by decide +kernel), by decide, by decide, by decide⟩
    · show ga (Vc V) 17 k = 0 ∧ ga (Vc V) 18 k = 0
      rw [gA' 17 6 (by decide +kernel) (by decide +kernel), gA' 18 6 (by decide +kernel) (by decide +kernel)]
      exact ⟨rfl, rfl⟩
    · unfold mS
      rw [gA' 90 14 (by decide +kernel) (by decide +kernel)]
      exact ⟨rfl, rfl, fun k _ => ⟨rfl, rfl⟩⟩
  · exact ⟨0, by omega, gI 22 1 0 (by decide +kernel), gI 89 13 0 (by decide +kernel), fun i hi => absurd hi (Nat.not_lt_zero i)⟩
  · refine ⟨0, 0, by omega, by omega, gI 24 1 0 (by decide +kernel), gI 24 2 0 (by decide +kernel), gI 89 35 0 (by decide +kernel), fun j hj => ?_, fun e he => absurd he (Nat.not_lt_zero e)⟩
    have hj' : ∀ j, j < 12 → (26 + 3 * j, 2, (999 : Int32)) ∈ kints := by decide +kernel
    exact gI _ _ _ (hj' j hj)
  · refine ⟨0, by omega, gI 89 58 0 (by decide +kernel), fun i hi => ?_⟩
    have hi' : ∀ i, i < 2 → (83 + 3 * i, 2, (999 : Int32)) ∈ kints := by decide +kernel
    refine ⟨gI _ _ _ (hi' i hi), Or.inl ⟨?_, by rw [gA' 116 2 (by decide +kernel) (by decide +kernel)]⟩⟩
    rw [g63]
    rcases (show i = 0 ∨ i = 1 by omega) with rfl | rfl
    · exact h3
    · exact h4
  · exact ⟨0, Or.inl rfl, by omega, gI 72 0 0 (by decide +kernel), gI 89 46 0 (by decide +kernel), fun i j hi => absurd hi (Nat.not_lt_zero i)⟩
  · exact ⟨0, by omega, gI 78 1 0 (by decide +kernel), gI 89 55 0 (by decide +kernel), fun i hi => absurd hi (Nat.not_lt_zero i)⟩
  · exact ⟨gI 89 30 (-1) (by decide +kernel), gI 89 31 (-1) (by decide +kernel), Or.inl h5, Or.inl h6⟩
