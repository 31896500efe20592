/-! ===== the best rows ===== -/
/-- house, rule, now, room, those, nobody may be dry -/
abbrev PL : Type := Hs × Rf × Nat × Nat × Nat × Bool
def plR (P : PL) : Nat := P.2.2.2.1
def plW (P : PL) : Nat := P.2.2.2.2.1
def plF (P : PL) : Bool := P.2.2.2.2.2
def nxq (P : PL) (b i L : Nat) : Int32 × Nat := qT P.1 P.2.1 (ordL (hst P.1) (hm P.1)) (on (plR P)) b (on (P.2.2.1 + i), on L, fun _ => 0, fun _ => 0)
def nxl (P : PL) (b i L : Nat) : Nat := (nxq P b i L).1.toNatClampNeg
def nxd (P : PL) (b i L : Nat) : Nat := popc (nxq P b i L).2
def wb (w : Nat) : Nat := if w = 0 then 0 else 2 ^ (w - 1)
def w1 (w : Nat) : Nat := if w = 0 then 0 else 1
def wi (w : Nat) : Int32 := if w = 0 then -1 else on (w - 1)
/-- what must be -/
def PO (P : PL) : Prop := HO P.1 ∧ P.2.2.1 < 1000000 ∧ 1 ≤ plR P ∧ plR P ≤ 999 ∧ plW P < 2 ^ hm P.1
def cst (P : PL) (rest : Nat → Nat) (i L w : Nat) : Nat := if plF P = true ∧ (nxq P (wb w) i L).2 ≠ 0 then 1000000000 else if rest (nxl P (wb w) i L) = 1000000000 then 1000000000 else rest (nxl P (wb w) i L) + (if plF P = true then 10000 * w1 w else 100 * nxd P (wb w) i L + w1 w)
def bst (P : PL) : Nat → Nat → Nat → Nat
  | 0, _, L => if plF P = true then 999 - L else 0
  | k + 1, i, L => fo (fun j a => if (plW P).testBit j = true then min a (cst P (bst P k (i + 1)) i L (j + 1)) else a) (hm P.1) 0 (cst P (bst P k (i + 1)) i L 0)
def gA (P : PL) (v : Nat) : Nat := if v = 1000000000 then 1000000 else if plF P = true then 1000 * (v / 10000) + v % 10000 else 13 * (v / 100) + v % 100
def vld (P : PL) (k v : Nat) : Prop := (plF P = true ∧ (v = 1000000000 ∨ ∃ a t, v = 10000 * a + t ∧ a ≤ k ∧ t ≤ 999)) ∨ (¬ plF P = true ∧ ∃ a t, v = 100 * a + t ∧ a ≤ 6 * k ∧ t ≤ k)
/-- who may be asked -/
def gw (P : PL) (w : Nat) : Prop := w = 0 ∨ (w ≤ hm P.1 ∧ (plW P).testBit (w - 1) = true)
theorem bit_lt {b m j : Nat} (h : b < 2 ^ m) (hj : b.testBit j = true) : j < m := by
  apply Classical.byContradiction
  intro hn
  have : b < 2 ^ j := Nat.lt_of_lt_of_le h (Nat.pow_le_pow_right (by decide) (by omega))
  rw [Nat.testBit_lt_two_pow this] at hj
  cases hj
theorem gw_pr {P : PL} (hP : PO P) {w : Nat} (h : gw P w) : pr P.1 (wi w) (-1) (wb w) ∧ wb w < 2 ^ hm P.1 := by
  rcases h with rfl | ⟨h1, h2⟩
  · exact ⟨pr_no _, pw_pos _⟩
  · by_cases e : w = 0
    · subst e; exact ⟨pr_no _, pw_pos _⟩
    · rw [wi, wb, if_neg e, if_neg e]
      exact ⟨pr_one (by omega), pw_lt2 (by omega)⟩
theorem nx_ok {P : PL} (hP : PO P) {w i L : Nat} (h : gw P w) (hi : i ≤ 12) (hL : L ≤ plR P) : (nxq P (wb w) i L).1 = on (nxl P (wb w) i L) ∧ nxl P (wb w) i L ≤ plR P ∧ (nxq P (wb w) i L).2 < 64 ∧ nxd P (wb w) i L ≤ 6 := by
  obtain ⟨h1, h2, h3, h4, h5⟩ := hP
  have er := on_ti (show plR P < 2147483648 by omega)
  have eL := on_ti (show L < 2147483648 by omega)
  have en := on_ti (show P.2.2.1 + i < 2147483648 by omega)
  have e0 : (0 : Int32).toInt = 0 := rfl
  have := qz_SK (K := P.2.2.1 + i) (f := P.2.1) (rm := on (plR P)) (z := (on (P.2.2.1 + i), on L, fun _ => 0, fun _ => 0)) h1 (by omega) ⟨⟨by rw [en]; omega, by rw [en]; omega⟩, ⟨by rw [eL]; omega, by rw [eL]; omega⟩, fun k _ => ⟨⟨by rw [en, e0]; omega, by rw [en, e0]; omega⟩, fun _ => ⟨rfl, rfl⟩⟩⟩ ⟨by rw [er]; omega, by rw [er]; omega⟩ (by rw [eL, er]; omega) (gw_pr ⟨h1, h2, h3, h4, h5⟩ h).1
  obtain ⟨⟨-, ⟨a1, a2⟩, -⟩, a3⟩ := this
  change 0 ≤ (nxq P (wb w) i L).1.toInt at a1
  change (nxq P (wb w) i L).1.toInt ≤ _ at a3
  have hn := ti_nn (nxq P (wb w) i L).1
  have hq := qT_lt h1 P.2.1 (hst P.1) (on (plR P)) (wb w) (on (P.2.2.1 + i), on L, fun _ => 0, fun _ => 0)
  change (nxq P (wb w) i L).2 < 64 at hq
  refine ⟨(on_of (by rw [ti_le]; exact a1)).symm, ?_, hq, popc_le _ hq⟩
  unfold nxl
  rw [er] at a3
  omega
theorem vld_mono {P : PL} {k k' v : Nat} (h : vld P k v) (hk : k ≤ k') : vld P k' v := by
  rcases h with ⟨h, h2 | ⟨a, t, h2, h3, h4⟩⟩ | ⟨h, a, t, h2, h3, h4⟩
  · exact Or.inl ⟨h, Or.inl h2⟩
  · exact Or.inl ⟨h, Or.inr ⟨a, t, h2, by omega, h4⟩⟩
  · exact Or.inr ⟨h, a, t, h2, by omega, by omega⟩
theorem gA_le {P : PL} {k v v' : Nat} (hk : k ≤ 12) (h : vld P k v) (h' : vld P k v') : (v ≤ v' ↔ gA P v ≤ gA P v') ∧ gA P v ≤ 1000000 ∧ (gA P v = 1000000 ↔ v = 1000000000) := by
  unfold gA
  rcases h with ⟨h, h2 | ⟨a, t, h2, h3, h4⟩⟩ | ⟨h, a, t, h2, h3, h4⟩
  · rcases h' with ⟨g, g2 | ⟨c, u, g2, g3, g4⟩⟩ | ⟨g, -⟩
    · rw [if_pos h2, if_pos g2]; omega
    · rw [if_pos h2, if_neg (by omega), if_pos h]; omega
    · exact absurd h g
  · rcases h' with ⟨g, g2 | ⟨c, u, g2, g3, g4⟩⟩ | ⟨g, -⟩
    · rw [if_neg (by omega), if_pos h, if_pos g2]; omega
    · rw [if_neg (by omega), if_pos h, if_neg (by omega), if_pos h]; omega
    · exact absurd h g
  · rcases h' with ⟨g, -⟩ | ⟨g, c, u, g2, g3, g4⟩
    · exact absurd g h
    · rw [if_neg (by omega), if_neg h, if_neg (by omega), if_neg h]; omega
theorem gA_min {P : PL} {k v v' : Nat} (hk : k ≤ 12) (h : vld P k v) (h' : vld P k v') : gA P (min v v') = min (gA P v) (gA P v') := by
  have h1 := (gA_le hk h h').1
  rcases Nat.le_total v v' with e | e
  · rw [Nat.min_eq_left e, Nat.min_eq_left (h1.mp e)]
  · rw [Nat.min_eq_right e, Nat.min_eq_right ((gA_le hk h' h).1.mp e)]
theorem gA_eq {P : PL} {k v v' : Nat} (hk : k ≤ 12) (h : vld P k v) (h' : vld P k v') : gA P v = gA P v' ↔ v = v' := by
  have h1 := (gA_le hk h h').1
  have h2 := (gA_le hk h' h).1
  omega
theorem w1_le (w : Nat) : w1 w ≤ 1 := by
  unfold w1
  by_cases e : w = 0
  · rw [if_pos e]; omega
  · rw [if_neg e]; omega
theorem cst_vld {P : PL} (hP : PO P) {rest : Nat → Nat} {k i L w : Nat} (hk : k < 12) (hr : ∀ L, L ≤ plR P → vld P k (rest L)) (h : gw P w) (hi : i ≤ 12) (hL : L ≤ plR P) :
    vld P (k + 1) (cst P rest i L w) ∧ gA P (cst P rest i L w) = (if plF P = true ∧ (nxq P (wb w) i L).2 ≠ 0 then 1000000 else min 1000000 ((if plF P = true then 1000 * w1 w else 13 * nxd P (wb w) i L + w1 w) + gA P (rest (nxl P (wb w) i L)))) := by
  obtain ⟨n1, n2, n3, n4⟩ := nx_ok hP h hi hL
  have hv := hr _ n2
  have ht := w1_le w
  unfold cst
  generalize nxd P (wb w) i L = d at *
  generalize (nxq P (wb w) i L).2 = q at *
  generalize rest (nxl P (wb w) i L) = r at *
  generalize w1 w = t at *
  by_cases e : plF P = true ∧ q ≠ 0
  · rw [if_pos e, if_pos e]
    refine ⟨Or.inl ⟨e.1, Or.inl rfl⟩, ?_⟩
    unfold gA; rw [if_pos rfl]
  · rw [if_neg e, if_neg e]
    by_cases er : r = 1000000000
    · rw [if_pos er]
      have hF : plF P = true := by
        rcases hv with ⟨h, -⟩ | ⟨-, a, u, h2, h3, h4⟩
        · exact h
        · omega
      refine ⟨Or.inl ⟨hF, Or.inl rfl⟩, ?_⟩
      unfold gA; rw [if_pos rfl, if_pos er]; omega
    · rw [if_neg er]
      rcases hv with ⟨hF, h2 | ⟨a, u, h2, h3, h4⟩⟩ | ⟨hF, a, u, h2, h3, h4⟩
      · exact absurd h2 er
      · rw [if_pos hF, if_pos hF]
        refine ⟨Or.inl ⟨hF, Or.inr ⟨a + t, u, by omega, by omega, h4⟩⟩, ?_⟩
        unfold gA
        rw [if_neg (by omega), if_pos hF, if_neg er, if_pos hF]
        omega
      · rw [if_neg hF, if_neg hF]
        refine ⟨Or.inr ⟨hF, a + d, u + t, by omega, by omega, by omega⟩, ?_⟩
        unfold gA
        rw [if_neg (by omega), if_neg hF, if_neg er, if_neg hF]
        omega
theorem vld_min {P : PL} {k v v' : Nat} (h : vld P k v) (h' : vld P k v') : vld P k (min v v') := by
  rcases Nat.le_total v v' with e | e
  · rw [Nat.min_eq_left e]; exact h
  · rw [Nat.min_eq_right e]; exact h'
theorem bst_vld {P : PL} (hP : PO P) : ∀ (k i L : Nat), i + k ≤ 12 → L ≤ plR P → vld P k (bst P k i L) := by
  intro k
  induction k with
  | zero =>
    intro i L hi hL
    have := hP.2.2.2.1
    rw [bst]
    by_cases e : plF P = true
    · rw [if_pos e]; exact Or.inl ⟨e, Or.inr ⟨0, 999 - L, by omega, by omega, by omega⟩⟩
    · rw [if_neg e]; exact Or.inr ⟨e, 0, 0, by omega, by omega, by omega⟩
  | succ k ih =>
    intro i L hi hL
    rw [bst]
    refine (fo_ind (fun _ a => vld P (k + 1) a) (hm P.1) (fun j a hj ha => ?_) (hm P.1) 0 _ (by omega) (cst_vld hP (by omega) (fun L hL => ih (i + 1) L (by omega) hL) (Or.inl rfl) (by omega) hL).1)
    by_cases e : (plW P).testBit j = true
    · rw [if_pos e]
      exact vld_min ha (cst_vld hP (by omega) (fun L hL => ih (i + 1) L (by omega) hL) (Or.inr ⟨by omega, by rw [Nat.add_sub_cancel]; exact e⟩) (by omega) hL).1
    · rw [if_neg e]; exact ha
theorem bst_ex (P : PL) (k i L : Nat) : ∃ w, gw P w ∧ bst P (k + 1) i L = cst P (bst P k (i + 1)) i L w := by
  rw [bst]
  refine (fo_ind (fun _ a => ∃ w, gw P w ∧ a = cst P (bst P k (i + 1)) i L w) (hm P.1) (fun j a hj ha => ?_) (hm P.1) 0 _ (by omega) ⟨0, Or.inl rfl, rfl⟩)
  by_cases e : (plW P).testBit j = true
  · rw [if_pos e]
    obtain ⟨w, hw, ha⟩ := ha
    rcases Nat.le_total a (cst P (bst P k (i + 1)) i L (j + 1)) with e2 | e2
    · rw [Nat.min_eq_left e2]; exact ⟨w, hw, ha⟩
    · rw [Nat.min_eq_right e2]; exact ⟨j + 1, Or.inr ⟨by omega, by rw [Nat.add_sub_cancel]; exact e⟩, rfl⟩
  · rw [if_neg e]; exact ha
/-! the first of the best -/
def fnd (p : Nat → Bool) : Nat → Nat → Nat
  | 0, j => j
  | g + 1, j => if p j = true then j else fnd p g (j + 1)
theorem fnd_le (p : Nat → Bool) : ∀ g j, j ≤ fnd p g j ∧ fnd p g j ≤ j + g := by
  intro g
  induction g with
  | zero => intro j; exact ⟨Nat.le_refl _, Nat.le_refl _⟩
  | succ g ih =>
    intro j
    rw [fnd]
    by_cases e : p j = true
    · rw [if_pos e]; omega
    · rw [if_neg e]; have := ih (j + 1); omega
theorem fnd_no (p : Nat → Bool) : ∀ g j w, j ≤ w → w < fnd p g j → ¬ p w = true := by
  intro g
  induction g with
  | zero => intro j w h1 h2; rw [fnd] at h2; omega
  | succ g ih =>
    intro j w h1 h2
    rw [fnd] at h2
    by_cases e : p j = true
    · rw [if_pos e] at h2; omega
    · rw [if_neg e] at h2
      by_cases ew : w = j
      · rw [ew]; exact e
      · exact ih (j + 1) w (by omega) h2
theorem fnd_yes (p : Nat → Bool) : ∀ g j w, j ≤ w → w ≤ j + g → p w = true → p (fnd p g j) = true := by
  intro g
  induction g with
  | zero =>
    intro j w h1 h2 h3
    obtain rfl : w = j := by omega
    exact h3
  | succ g ih =>
    intro j w h1 h2 h3
    rw [fnd]
    by_cases e : p j = true
    · rw [if_pos e]; exact e
    · rw [if_neg e]
      exact ih (j + 1) w (by rcases Nat.eq_or_lt_of_le h1 with h | h; · subst h; exact absurd h3 e
                             · exact h) (by omega) h3
def pkw (P : PL) (k i L w : Nat) : Bool := (decide (w = 0) || (decide (w ≤ hm P.1) && (plW P).testBit (w - 1))) && decide (cst P (bst P k (i + 1)) i L w = bst P (k + 1) i L)
theorem pkw_eq (P : PL) (k i L w : Nat) : pkw P k i L w = true ↔ gw P w ∧ cst P (bst P k (i + 1)) i L w = bst P (k + 1) i L := by
  unfold pkw gw; simp
def fsw (P : PL) (k i L : Nat) : Nat := fnd (pkw P k i L) 6 0
theorem fsw_ok {P : PL} (hP : PO P) (k i L : Nat) : fsw P k i L ≤ 6 ∧ gw P (fsw P k i L) ∧ cst P (bst P k (i + 1)) i L (fsw P k i L) = bst P (k + 1) i L ∧ ∀ w, w < fsw P k i L → ¬ (gw P w ∧ cst P (bst P k (i + 1)) i L w = bst P (k + 1) i L) := by
  obtain ⟨w, hw, hb⟩ := bst_ex P k i L
  have h6 := hP.1.1
  have hw6 : w ≤ 6 := by
    rcases hw with rfl | h
    · omega
    · omega
  have h1 := fnd_yes (pkw P k i L) 6 0 w (by omega) (by omega) ((pkw_eq P k i L w).mpr ⟨hw, hb.symm⟩)
  have h2 := (pkw_eq P k i L _).mp h1
  refine ⟨by have := (fnd_le (pkw P k i L) 6 0).2; unfold fsw; omega, h2.1, h2.2, fun w hlt hc => ?_⟩
  exact fnd_no (pkw P k i L) 6 0 w (by omega) hlt ((pkw_eq P k i L w).mpr hc)
def pth (P : PL) : Nat → Nat → Nat → List Int64
  | 0, _, _ => []
  | k + 1, i, L => (wi (fsw P k i L)).toInt64 :: pth P k (i + 1) (nxl P (wb (fsw P k i L)) i L)
theorem pth_len (P : PL) : ∀ k i L, (pth P k i L).length = k := by
  intro k
  induction k with
  | zero => intro i L; rfl
  | succ k ih => intro i L; rw [pth, List.length_cons, ih]
theorem bst_fin {P : PL} (hP : PO P) {k i L : Nat} (h : bst P (k + 1) i L ≠ 1000000000) : bst P k (i + 1) (nxl P (wb (fsw P k i L)) i L) ≠ 1000000000 := by
  obtain ⟨-, -, h3, -⟩ := fsw_ok hP k i L
  intro hc
  apply h
  rw [← h3, cst, if_pos hc]
  by_cases e : plF P = true ∧ (nxq P (wb (fsw P k i L)) i L).2 ≠ 0
  · rw [if_pos e]
  · rw [if_neg e]
