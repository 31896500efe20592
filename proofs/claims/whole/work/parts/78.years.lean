/-! ===== years ===== -/
def us (r : Int32) : Nat := r.toUInt32.toNat / 65536
theorem us_lt (r : Int32) : us r < 65536 := by
  have := r.toUInt32.toNat_lt
  unfold us; omega
theorem us_eq (r : Int32) : (r.toUInt32 >>> (((16 : Int32)).toUInt32 &&& Int32.toUInt32 31)).toInt32 = on (us r) := by
  have h1 : (((16 : Int32)).toUInt32 &&& Int32.toUInt32 31) = 16 := by decide
  rw [h1]
  apply Int32.toBitVec.inj
  show (r.toUInt32 >>> 16).toBitVec = BitVec.ofNat 32 (us r)
  apply BitVec.eq_of_toNat_eq
  rw [BitVec.toNat_ofNat]
  have := us_lt r
  rw [Nat.mod_eq_of_lt (by omega)]
  show (r.toUInt32 >>> 16).toNat = us r
  rw [UInt32.toNat_shiftRight]
  show r.toUInt32.toNat >>> 16 = _
  rw [Nat.shiftRight_eq_div_pow]; rfl
def yr (r : Int32) : Int32 := r * 1103515245 + 12345
def yD (h : Hs) (r : Int32) : Nat := us r % (hm h + 1)
def yB (h : Hs) (r : Int32) : Nat := if yD h r < hm h then 2 ^ yD h r else 0
def yG (h : Hs) (f : Rf) (rm : Int32) (a : Ss × Int32 × Int32) : Ss × Int32 × Int32 := (qz h f (lo h) rm (yB h (yr a.2.1)) a.1, yr a.2.1, a.2.2 + on (popc (qT h f (lo h) rm (yB h (yr a.2.1)) a.1).2))
def yS (h : Hs) (f : Rf) (rm seed : Int32) (z : Ss) (i : Nat) : Ss × Int32 × Int32 := fo (fun _ a => yG h f rm a) i 0 (z, seed, 0)
theorem yS_s (h : Hs) (f : Rf) (rm seed : Int32) (z : Ss) (i : Nat) : yS h f rm seed z (i + 1) = yG h f rm (yS h f rm seed z i) := fo_s _ _ _ _
theorem yB_lt (h : Hs) (r : Int32) : yB h r < 2 ^ hm h := by
  unfold yB
  by_cases e : yD h r < hm h
  · rw [if_pos e]; exact pw_lt2 e
  · rw [if_neg e]; exact pw_pos _
def z0 (z : Ss) : Ss := (z.1, z.2.1, z.2.2.1, fun _ => 0)
theorem qT_eq {h : Hs} {f : Rf} {l : List Nat} {rm : Int32} {b : Nat} {z y : Ss} (e1 : z.1 = y.1) (e2 : z.2.1 = y.2.1) : qT h f l rm b z = qT h f l rm b y ∧ qlif h f b z = qlif h f b y ∧ qovr h f rm b z = qovr h f rm b y := by
  unfold qT qovr qlif
  rw [e1, e2]
  exact ⟨rfl, rfl, rfl⟩
theorem yS_rel (h : Hs) (f : Rf) (rm seed : Int32) (z : Ss) : ∀ i, (yS h f rm seed z i).1.1 = (yS h f rm seed (z0 z) i).1.1 ∧ (yS h f rm seed z i).1.2.1 = (yS h f rm seed (z0 z) i).1.2.1 ∧ (yS h f rm seed z i).1.2.2.1 = (yS h f rm seed (z0 z) i).1.2.2.1 ∧ (yS h f rm seed z i).2 = (yS h f rm seed (z0 z) i).2 ∧ ∀ k, (yS h f rm seed z i).1.2.2.2 k = z.2.2.2 k + (yS h f rm seed (z0 z) i).1.2.2.2 k := by
  intro i
  induction i with
  | zero => exact ⟨rfl, rfl, rfl, rfl, fun k => by show z.2.2.2 k = z.2.2.2 k + 0; rw [Int32.add_zero]⟩
  | succ i ih =>
    obtain ⟨i1, i2, i3, i4, i5⟩ := ih
    rw [yS_s, yS_s]
    generalize yS h f rm seed z i = a at *
    generalize yS h f rm seed (z0 z) i = b at *
    obtain ⟨za, ra, da⟩ := a
    obtain ⟨zb, rb, db⟩ := b
    simp only at i1 i2 i3 i4 i5
    obtain ⟨rfl, rfl⟩ := Prod.mk.inj i4
    rw [yG, yG]
    simp only
    generalize yr ra = r'
    generalize yB h r' = B
    obtain ⟨t1, t2, t3⟩ := qT_eq (h := h) (f := f) (l := lo h) (rm := rm) (b := B) i1 i2
    rw [t1]
    generalize hT : qT h f (lo h) rm B zb = T at *
    unfold qz
    rw [t1, hT]
    refine ⟨by show za.1 + 1 = zb.1 + 1; rw [i1], rfl, ?_, rfl, fun k => ?_⟩
    · show (fun k => za.2.2.1 k - _ + _) = (fun k => zb.2.2.1 k - _ + _)
      rw [i3, i1]
    · show za.2.2.2 k + _ = z.2.2.2 k + (zb.2.2.2 k + _)
      rw [i5 k, Int32.add_assoc]
theorem tf_bit : ∀ b, b < 64 → ∀ k, k < 6 → tf (b.testBit k = true) = on (b / 2 ^ k % 2) := by decide +kernel
theorem bit0 {b k m : Nat} (h : ∀ k, k < 6 → b.testBit k = true → k < m) (hb : b < 64) (hk : k < 6) (hm : m ≤ k) : b / 2 ^ k % 2 = 0 := by
  have e := tf_bit b hb k hk
  rw [tf_neg (fun hc => by have := h k hk hc; omega)] at e
  have h2 : b / 2 ^ k % 2 < 2 := Nat.mod_lt _ (by decide)
  rw [zero_on, on_inj (by omega) (by omega)] at e
  exact e.symm
theorem yS_cnt {h : Hs} (hO : HO h) (f : Rf) (rm seed : Int32) (z : Ss) : ∀ i, ∃ c : Nat → Nat, (∀ k, k < 6 → (yS h f rm seed (z0 z) i).1.2.2.2 k = on (c k)) ∧ (yS h f rm seed (z0 z) i).2.2 = on (c 0 + c 1 + c 2 + c 3 + c 4 + c 5) ∧ (∀ k, k < 6 → c k ≤ i) ∧ ∀ k, k < 6 → hm h ≤ k → c k = 0 := by
  have h6 := hO.1
  intro i
  induction i with
  | zero => exact ⟨fun _ => 0, fun k hk => rfl, rfl, fun k hk => Nat.le_refl _, fun k _ _ => rfl⟩
  | succ i ih =>
    obtain ⟨c, c1, c2, c3, c4⟩ := ih
    rw [yS_s]
    generalize yS h f rm seed (z0 z) i = a at *
    have hT : (qT h f (lo h) rm (yB h (yr a.2.1)) a.1).2 < 64 := qT_lt hO f (hst h) rm (yB h (yr a.2.1)) a.1
    have hTm : ∀ k, k < 6 → (qT h f (lo h) rm (yB h (yr a.2.1)) a.1).2.testBit k = true → k < hm h := fun k hk hb => ordL_mem ((tk_bits h _ _ _ (fun j hj => by have := ordL_mem hj; omega)).2 k hk hb)
    generalize hb : (qT h f (lo h) rm (yB h (yr a.2.1)) a.1).2 = b at *
    have hlt : ∀ k, b / 2 ^ k % 2 < 2 := fun k => Nat.mod_lt _ (by decide)
    refine ⟨fun k => c k + b / 2 ^ k % 2, ?_, ?_, ?_, ?_⟩
    · intro k hk
      show a.1.2.2.2 k + tf ((qT h f (lo h) rm (yB h (yr a.2.1)) a.1).2.testBit k = true) = _
      rw [hb, tf_bit b hT k hk, c1 k hk, on_add]
    · show a.2.2 + on (popc (qT h f (lo h) rm (yB h (yr a.2.1)) a.1).2) = _
      rw [hb, c2, on_add]
      congr 1
      unfold popc
      simp only [Nat.pow_zero, Nat.pow_one, Nat.div_one, Nat.reducePow]
      omega
    · intro k hk
      have := c3 k hk
      have := hlt k
      show c k + b / 2 ^ k % 2 ≤ i + 1
      omega
    · intro k hk hmk
      show c k + b / 2 ^ k % 2 = 0
      rw [c4 k hk hmk, bit0 hTm hT hk hmk]
/-- the class's first greatest, and the model's -/
def yM (c : Nat → Nat) : Nat → Int32 × Nat := fun i => fo (fun i a => if a.2 < c i then (on i, c i) else a) i 0 (-1, 0)
theorem yM_s (c : Nat → Nat) (i : Nat) : yM c (i + 1) = if (yM c i).2 < c i then (on i, c i) else yM c i := by
  unfold yM
  rw [fo_s, Nat.zero_add]
theorem yM_dp {c : Nat → Nat} {d : Nat → Int32} (hd : ∀ k, k < 6 → d k = on (c k)) (hc : ∀ k, k < 6 → c k ≤ 1000) : ∀ i, i < 6 → (yM c (i + 1)).2 = c (dp (i + 1) d) ∧ dp (i + 1) d < 6 ∧ (0 < (yM c (i + 1)).2 → (yM c (i + 1)).1 = on (dp (i + 1) d)) ∧ ((yM c (i + 1)).2 = 0 → (yM c (i + 1)).1 = -1) ∧ ∀ j, j < i + 1 → c j ≤ (yM c (i + 1)).2 := by
  intro i
  induction i with
  | zero =>
    intro _
    have e0 : dp (0 + 1) d = 0 := rfl
    rw [e0, yM_s]
    have ey : yM c 0 = (-1, 0) := rfl
    rw [ey]
    by_cases e : 0 < c 0
    · rw [if_pos e]
      exact ⟨rfl, by omega, fun _ => rfl, fun h => absurd h (by show ¬ c 0 = 0; omega), fun j hj => by rw [show j = 0 by omega]; exact Nat.le_refl _⟩
    · rw [if_neg e]
      refine ⟨by show 0 = c 0; omega, by omega, fun h => absurd h (by show ¬ 0 < 0; omega), fun _ => rfl, fun j hj => by rw [show j = 0 by omega]; show c 0 ≤ 0; omega⟩
  | succ i ih =>
    intro hi
    obtain ⟨i1, i2, i3, i4, i5⟩ := ih (by omega)
    have es : dp (i + 1 + 1) d = if d (i + 1) ≤ d (dp (i + 1) d) then dp (i + 1) d else i + 1 := by
      unfold dp
      show fo _ (i + 1) 1 0 = _
      rw [fo_s, Nat.add_comm 1 i]; rfl
    have hcmp : (d (i + 1) ≤ d (dp (i + 1) d)) ↔ ¬ (yM c (i + 1)).2 < c (i + 1) := by
      have a1 := hc (i + 1) (by omega)
      have a2 := hc _ i2
      rw [hd _ (by omega), hd _ i2, on_le (by omega) (by omega), i1]; omega
    rw [es, yM_s]
    by_cases e : (yM c (i + 1)).2 < c (i + 1)
    · rw [if_pos e, if_neg (fun hc => (hcmp.mp hc) e)]
      refine ⟨rfl, by omega, fun _ => rfl, fun h => absurd h (by show ¬ c (i + 1) = 0; omega), fun j hj => ?_⟩
      show c j ≤ c (i + 1)
      by_cases ej : j = i + 1
      · rw [ej]; exact Nat.le_refl _
      · have := i5 j (by omega); omega
    · rw [if_neg e, if_pos (hcmp.mpr e)]
      refine ⟨i1, i2, i3, i4, fun j hj => ?_⟩
      by_cases ej : j = i + 1
      · rw [ej]; omega
      · exact i5 j (by omega)
def yR (h : Hs) (a : Ss × Int32 × Int32) (c : Nat → Nat) : List Int64 := [a.1.2.1.toInt64, (yM c (hm h)).1.toInt64, (on (yM c (hm h)).2).toInt64]
theorem yD_eq {h : Hs} (hO : HO h) (r : Int32) : on (us r) - on (us r) / on (hm h + 1) * on (hm h + 1) = on (yD h r) := by
  have h6 := hO.1
  have := us_lt r
  rw [on_mod (by omega) (by omega)]; rfl
theorem yD_le (h : Hs) (r : Int32) : yD h r ≤ hm h := by
  have := Nat.mod_lt (us r) (show hm h + 1 > 0 by omega)
  unfold yD; omega
theorem fill_21 (V : ai_V) : ∃ V', d_Arr_fill_21 0 V = some V' ∧ (∀ k, k < 6 → ga V' 21 k = 0) ∧ Fr ([], [21]) V V' := by
  rw [d_Arr_fill_21]
  refine loop_n (fun n (_ : Unit) x V => d_Arr_fill_21_5 n 0 x (Int32.ofNat 6) V) (fun c : ai_V => some c) (fun i _ V1 => (∀ k, k < i → ga V1 21 k = 0) ∧ Fr ([], [21]) V V1) (fun V' => (∀ k, k < 6 → ga V' 21 k = 0) ∧ Fr ([], [21]) V V') 6 ?_ ?_ 6 0 ai_N () V (by omega) (N_gt (by omega)) ⟨fun k hk => absurd hk (by omega), Fr.rf⟩
  · rintro n _ i V1 hi ⟨a1, hF⟩
    show ∃ a' V', d_Arr_fill_21_5 (n + 1) 0 (on i) (on 6) V1 = _ ∧ _
    rw [d_Arr_fill_21_5, if_neg (by rw [on_le (by omega) (by omega)]; omega), if_pos (by rw [on_in (by omega)]; omega), on_s, on_nn (by omega)]
    refine ⟨(), _, rfl, fun k hk => ?_, Fr.sa hF rfl⟩
    rw [ga_sa]
    by_cases e : k = i
    · rw [if_pos ⟨rfl, e⟩]
    · rw [if_neg (fun hc => e hc.2)]; exact a1 k (by omega)
  · rintro n _ V1 ⟨a1, hF⟩
    show ∃ c : ai_V, d_Arr_fill_21_5 (n + 1) 0 (on 6) (on 6) V1 = _ ∧ _
    rw [d_Arr_fill_21_5, if_pos (by decide)]
    exact ⟨V1, rfl, a1, hF⟩
theorem X_years {N : Nat} {V : ai_V} {h : Hs} {f : Rf} {z : Ss} {rm seed : Int32} {nw n : Nat} {c : Nat → Nat} (K : KC V h f) (hS : IS N V h z rm) (hn : z.1 = on nw) (hb : nw < 2000000) (h1 : 1 ≤ n) (hk : n ≤ 20) (c1 : ∀ k, k < 6 → (yS h f rm seed (z0 z) (n * 12)).1.2.2.2 k = on (c k)) (c2 : (yS h f rm seed (z0 z) (n * 12)).2.2 = on (c 0 + c 1 + c 2 + c 3 + c 4 + c 5)) (c3 : ∀ k, k < 6 → c k ≤ n * 12) (c4 : ∀ k, k < 6 → hm h ≤ k → c k = 0) :
    ∃ b : Int32 × ai_V, d_X_years seed (on n) V = some b ∧ b.1 = (yS h f rm seed (z0 z) (n * 12)).2.2 ∧ cRow b.2 (yR h (yS h f rm seed (z0 z) (n * 12)) c) := by
  have h6 := K.1.1
  obtain ⟨V1, e1, t1⟩ := start_C hS hn
  obtain ⟨V2, e2, f2, F2⟩ := fill_21 V1
  have t2 : tC V V2 (z0 z) rm nw := by
    obtain ⟨a1, a2, a3, a4⟩ := t1
    refine ⟨⟨?_, ?_, fun k hk => ⟨?_, f2 k hk⟩⟩, by rw [F2.gi 19 2 rfl, a2], a3, Fr.tr a4 F2 rfl⟩
    · rw [F2.gi 19 0 rfl]; exact a1.1
    · rw [F2.gi 19 1 rfl]; exact a1.2.1
    · rw [F2.ga 20 rfl]; exact (a1.2.2 k hk).1
  rw [d_X_years, one_on, if_neg (by rw [on_lt (by omega) (by omega)]; omega), show (20 : Int32) = on 20 from rfl, if_pos (by rw [on_le (by omega) (by omega)]; omega), e1, bd_some, zero_on]
  show ∃ b : Int32 × ai_V, ((d_Arr_fill_21 0 V1).bind _) = _ ∧ _
  have C2 := (K.fr t2.2.2.2 rfl).2.1
  rw [e2, bd_some, C2.1, on_add]
  refine loop_n (fun k (a : Ss × Int32 × Int32) x V => d_X_years_46 k (on n) (on (hm h + 1)) a.2.1 a.2.2 x V) (fun c => some c) (fun i a V' => tC V V' a.1 rm (nw + i) ∧ a = yS h f rm seed (z0 z) i) (fun b => b.1 = (yS h f rm seed (z0 z) (n * 12)).2.2 ∧ cRow b.2 (yR h (yS h f rm seed (z0 z) (n * 12)) c)) (n * 12) ?_ ?_ (n * 12) 0 ai_N (z0 z, seed, 0) V2 (by omega) (N_gt (by omega)) ⟨t2, rfl⟩
  · rintro k ⟨a, r, d⟩ i V3 hi ⟨hP, ha⟩
    have K3 := K.fr hP.2.2.2 rfl
    show ∃ a' V', d_X_years_46 (k + 1) (on n) (on (hm h + 1)) r d (on i) V3 = _ ∧ _
    have hev : yS h f rm seed (z0 z) (i + 1) = yG h f rm (a, r, d) := by rw [yS_s, ← ha]
    have hyr : r * 1103515245 + 12345 = yr r := rfl
    have hle := yD_le h (yr r)
    rw [d_X_years_46, show (12 : Int32) = on 12 from rfl, on_mul, if_neg (by rw [on_le (by omega) (by omega)]; omega), one_on, if_pos (by rw [on_le (by omega) (by omega)]; omega), if_neg (by rw [on_z (by omega)]; omega), hyr, us_eq, yD_eq K.1, d_X_years_85, K3.2.1.1]
    by_cases e : yD h (yr r) < hm h
    · have hB : yB h (yr r) = 2 ^ yD h (yr r) := by rw [yB, if_pos e]
      obtain ⟨V4, e4, t4, -, -, -, b5⟩ := tC_step K hP (by omega) (pr_one e)
      rw [if_neg (by rw [on_le (by omega) (by omega)]; omega), d_X_years_110, e4, bd_some, b5, on_s]
      refine ⟨yG h f rm (a, r, d), V4, ?_, ?_, hev.symm⟩
      · unfold yG; simp only [hB]
      · unfold yG; simp only [hB]; exact t4
    · have hB : yB h (yr r) = 0 := by rw [yB, if_neg e]
      obtain ⟨V4, e4, t4, -, -, -, b5⟩ := tC_step K hP (by omega) (pr_no h)
      rw [if_pos (by rw [on_le (by omega) (by omega)]; omega), d_X_years_110, e4, bd_some, b5, on_s]
      refine ⟨yG h f rm (a, r, d), V4, ?_, ?_, hev.symm⟩
      · unfold yG; simp only [hB]
      · unfold yG; simp only [hB]; exact t4
  · rintro k ⟨a, r, d⟩ V3 ⟨hP, ha⟩
    have K3 := K.fr hP.2.2.2 rfl
    show ∃ b : Int32 × ai_V, d_X_years_46 (k + 1) (on n) (on (hm h + 1)) r d (on (n * 12)) V3 = _ ∧ _
    rw [← ha] at c1 c2 ⊢
    simp only at c1 c2
    have hd : ∀ k, k < 6 → ga V3 21 k = on (c k) := fun k hk => by rw [← c1 k hk]; exact (hP.1.2.2 k hk).2
    have c3' : ∀ k, k < 6 → c k ≤ 1000 := fun k hk => by have := c3 k hk; omega
    rw [d_X_years_46, show (12 : Int32) = on 12 from rfl, on_mul, if_pos (Int32.le_refl _)]
    have e0 := c3 0 (by omega); have e1 := c3 1 (by omega); have e2 := c3 2 (by omega); have e3 := c3 3 (by omega); have e4 := c3 4 (by omega); have e5 := c3 5 (by omega)
    have hlv : gi V3 19 1 = a.2.1 := hP.1.2.1
    by_cases e : d = 0
    · rw [if_neg (fun hn => hn e), d_X_years_152, has_eq K3.2.1, bd_some, if_pos (tf_neg no_has), d_X_years_190, hlv]
      obtain ⟨V4, q4, c4', -⟩ := tell3 a.2.1.toInt64 ((-1 : Int32).toInt64) (Int64.ofNat 0) V3
      rw [q4, bd_some]
      refine ⟨_, rfl, rfl, ?_⟩
      rw [e, zero_on, on_inj (by omega) (by omega)] at c2
      have hz : ∀ i, i ≤ 6 → yM c i = (-1, 0) := by
        intro i
        induction i with
        | zero => intro _; rfl
        | succ i ih =>
          intro hi
          rw [yM_s, ih (by omega), if_neg]
          show ¬ 0 < c i
          have hi6 : i = 0 ∨ i = 1 ∨ i = 2 ∨ i = 3 ∨ i = 4 ∨ i = 5 := by omega
          rcases hi6 with rfl | rfl | rfl | rfl | rfl | rfl <;> omega
      unfold yR
      rw [hz _ h6]
      exact c4'
    · rw [if_pos e]
      have hpos : ∃ j, j < hm h ∧ 0 < c j := by
        apply Classical.byContradiction
        intro hno
        have hz : ∀ j, j < 6 → c j = 0 := by
          intro j hj
          by_cases ej : j < hm h
          · by_cases ec : c j = 0
            · exact ec
            · exact absurd ⟨j, ej, by omega⟩ hno
          · exact c4 j hj (by omega)
        rw [hz 0 (by omega), hz 1 (by omega), hz 2 (by omega), hz 3 (by omega), hz 4 (by omega), hz 5 (by omega)] at c2
        exact e c2
      obtain ⟨j, hj, hcj⟩ := hpos
      obtain ⟨m', hm'⟩ : ∃ m', hm h = m' + 1 := ⟨hm h - 1, by omega⟩
      obtain ⟨y1, y2, y3, y4, y5⟩ := yM_dp (d := ga V3 21) hd c3' m' (by omega)
      rw [← hm'] at y1 y2 y3 y4 y5
      have ypos := y5 j hj
      have hdm := dp_lt (show 0 < hm h by omega) (ga V3 21)
      rw [fg_21 K3.1 K3.2.1 (by omega), bd_some, d_X_years_152, has_eq K3.2.1, bd_some, if_neg (by rw [tf_pos (on_has K3.1 hdm)]; decide), if_pos (by rw [on_in (by omega)]; omega), on_nn (by omega), d_X_years_190, hlv, hd _ y2]
      obtain ⟨V4, q4, c4', -⟩ := tell3 a.2.1.toInt64 (on (dp (hm h) (ga V3 21))).toInt64 (on (c (dp (hm h) (ga V3 21)))).toInt64 V3
      rw [q4, bd_some]
      refine ⟨_, rfl, rfl, ?_⟩
      unfold yR
      rw [y3 (by omega), y1]
      exact c4'
theorem M_years {N : Nat} {V V1 : ai_V} {h : Hs} {f : Rf} {z : Ss} {rm seed : Int32} {nw n : Nat} {c : Nat → Nat} {w : Fw} (K : KM V1 h f) (hS : IS N V h z rm) (hn : z.1 = on nw) (hb : nw < 2000000) (F : Fr w V V1) (hd : fw_a 90 w.2 = false) (h8 : gi V1 89 8 = rm) (h1 : 1 ≤ n) (hk : n ≤ 20) (c1 : ∀ k, k < 6 → (yS h f rm seed (z0 z) (n * 12)).1.2.2.2 k = on (c k)) (c3 : ∀ k, k < 6 → c k ≤ n * 12) :
    ∃ b : Int32 × ai_V, d_M_years seed (on n) V1 = some b ∧ b.1 = (yS h f rm seed (z0 z) (n * 12)).2.2 ∧ mRow b.2 (yR h (yS h f rm seed (z0 z) (n * 12)) c) := by
  have h6 := K.1.1
  obtain ⟨V2, e1, t1⟩ := start_M hS hn F hd 0
  rw [d_M_years, in_eq, bd_some, if_pos (by
    rw [tf_pos (by rw [one_on, show (20 : Int32) = on 20 from rfl, on_le (by omega) (by omega), on_le (by omega) (by omega)]; omega)]
    decide), e1, bd_some]
  have hNW : ga V1 90 = ga V 90 := F.ga 90 hd
  refine loop_n (fun k (a : Ss × Int32 × Int32) x V => d_M_years_37 k (on n) a.2.1 a.2.2 x V) (fun c => some c) (fun i a V' => tM V1 V' a.1 (nw + i) ∧ a = yS h f rm seed z i) (fun b => b.1 = (yS h f rm seed (z0 z) (n * 12)).2.2 ∧ mRow b.2 (yR h (yS h f rm seed (z0 z) (n * 12)) c)) (n * 12) ?_ ?_ (n * 12) 0 ai_N (z, seed, 0) V2 (by omega) (N_gt (by omega)) ⟨t1, rfl⟩
  · rintro k ⟨a, r, d⟩ i V3 hi ⟨hP, ha⟩
    have K3 := K.fr hP.2.2 rfl
    show ∃ a' V', d_M_years_37 (k + 1) (on n) r d (on i) V3 = _ ∧ _
    have hev : yS h f rm seed z (i + 1) = yG h f rm (a, r, d) := by rw [yS_s, ← ha]
    have hyr : r * 1103515245 + 12345 = yr r := rfl
    have hle := yD_le h (yr r)
    obtain ⟨V4, e4, t4, -, -, b5⟩ := tM_step K hP (by omega) (yB_lt h (yr r)) rm
    have hq := qT_lt K.1 f (hst h) rm (yB h (yr r)) a
    rw [d_M_years_37, show (12 : Int32) = on 12 from rfl, on_mul, if_neg (by rw [on_le (by omega) (by omega)]; omega), K3.2.1.1, on_s, if_neg (by rw [on_z (by omega)]; omega), hyr, us_eq, yD_eq K.1]
    by_cases e : yD h (yr r) < hm h
    · have hB : yB h (yr r) = 2 ^ yD h (yr r) := by rw [yB, if_pos e]
      rw [if_pos (by rw [on_inj (by omega) (by omega)]; omega), sh_on (by omega), d_M_years_91, hP.2.2.gi 89 8 rfl, h8, ← hB, e4, bd_some, b5, bitCount_on _ hq, bd_some, on_s]
      exact ⟨yG h f rm (a, r, d), V4, rfl, t4, hev.symm⟩
    · have hB : yB h (yr r) = 0 := by rw [yB, if_neg e]
      have e4' : d_M_goQuarter_89_103 0 rm V3 = some V4 := by rw [← e4, hB]; rfl
      rw [if_neg (by rw [on_inj (by omega) (by omega)]; omega), d_M_years_91, hP.2.2.gi 89 8 rfl, h8, e4', bd_some, b5, bitCount_on _ hq, bd_some, on_s]
      exact ⟨yG h f rm (a, r, d), V4, rfl, t4, hev.symm⟩
  · rintro k ⟨a, r, d⟩ V3 ⟨hP, ha⟩
    have K3 := K.fr hP.2.2 rfl
    obtain ⟨r1, r2, r3, r4, r5⟩ := yS_rel h f rm seed z (n * 12)
    rw [← ha] at r1 r2 r3 r4 r5
    simp only at r1 r2 r3 r4 r5
    show ∃ b : Int32 × ai_V, d_M_years_37 (k + 1) (on n) r d (on (n * 12)) V3 = _ ∧ _
    rw [d_M_years_37, show (12 : Int32) = on 12 from rfl, on_mul, Nat.mul_comm 12 n, if_pos (Int32.le_refl _)]
    have hof : ∀ k, k < 6 → ga V3 103 (6 + k) - ga V3 90 (6 + k) = on (c k) := by
      intro k hk
      have q1 := (hP.1.2.2 k hk).2
      have q2 := (hS.2.2.1.2.2 k hk).2
      rw [Nat.zero_add] at q1 q2
      rw [q1, hP.2.2.ga 90 rfl, hNW, q2, r5 k, c1 k hk, Int32.add_comm, Int32.sub_eq_add_neg, Int32.add_assoc, Int32.add_right_neg, Int32.add_zero]
    refine loop_n (fun j (a : Int32 × Nat) x V => d_M_years_125 j d a.1 (on a.2) x V) (fun c => some c) (fun i a V' => V' = V3 ∧ a = yM c i) (fun b => b.1 = (yS h f rm seed (z0 z) (n * 12)).2.2 ∧ mRow b.2 (yR h (yS h f rm seed (z0 z) (n * 12)) c)) (hm h) ?_ ?_ (hm h) 0 ai_N (-1, 0) V3 (by omega) (N_gt (by omega)) ⟨rfl, rfl⟩
    · rintro j ⟨wh, mo⟩ i V4 hi ⟨rfl, hy⟩
      show ∃ (a' : Int32 × Nat) (V' : ai_V), d_M_years_125 (j + 1) d wh (on mo) (on i) V4 = _ ∧ _
      have hmo : mo ≤ 1000 := by
        have : ∀ i, i ≤ 6 → (yM c i).2 ≤ 1000 := by
          intro i
          induction i with
          | zero => intro _; exact Nat.zero_le _
          | succ i ih =>
            intro hi
            rw [yM_s]
            by_cases e : (yM c i).2 < c i
            · rw [if_pos e]
              have := c3 i (by omega)
              show c i ≤ 1000
              omega
            · rw [if_neg e]; exact ih (by omega)
        have q := this i (by omega)
        rw [← hy] at q; exact q
      have hci := c3 i (by omega)
      have hin : ai_in (on (6 + i)) 14 := by rw [on_in (by omega)]; omega
      rw [d_M_years_125, K3.2.1.1, if_neg (by rw [on_le (by omega) (by omega)]; omega), show (6 : Int32) = on 6 from rfl, on_add, if_pos hin, if_pos hin, on_nn (by omega), hof i (by omega)]
      have hys := yM_s c i
      rw [← hy] at hys
      simp only at hys
      by_cases e : mo < c i
      · rw [if_pos e] at hys
        rw [if_pos (by rw [on_lt (by omega) (by omega)]; exact e), d_M_years_175, on_s]
        exact ⟨(on i, c i), V4, rfl, rfl, hys.symm⟩
      · rw [if_neg e] at hys
        rw [if_neg (by rw [on_lt (by omega) (by omega)]; exact e), d_M_years_175, on_s]
        exact ⟨(wh, mo), V4, rfl, rfl, hys.symm⟩
    · rintro j ⟨wh, mo⟩ V4 ⟨rfl, hy⟩
      show ∃ b : Int32 × ai_V, d_M_years_125 (j + 1) d wh (on mo) (on (hm h)) V4 = _ ∧ _
      have hl : ga V4 103 12 = a.2.1 := hP.1.2.1
      rw [d_M_years_125, K3.2.1.1, if_pos (Int32.le_refl _), ga_si, show ((12 : Int32)).toNatClampNeg = 12 from rfl, hl]
      obtain ⟨V5, e5, q5, -⟩ := m_tell (m_row0 V4) (by simp) a.2.1.toInt64
      obtain ⟨V6, e6, q6, -⟩ := m_tell q5 (by simp) wh.toInt64
      obtain ⟨V7, e7, q7, -⟩ := m_tell q6 (by simp) (on mo).toInt64
      rw [e5, bd_some, e6, bd_some, e7, bd_some]
      refine ⟨_, rfl, ?_, ?_⟩
      · show d = _
        rw [← r4]
      · unfold yR
        rw [← hy, ← r2]
        exact q7
theorem st_years {N : Nat} {V : ai_V} (hI : Inv N V) (hN : N < 512) (x v : Int32) : Step N V (d_X_years x v) (d_M_years x v) := by
  obtain ⟨h, f, z, rm, nw, kc, km, hS, hn, hb⟩ := hI.k
  by_cases hv : 1 ≤ v ∧ v ≤ 20
  · obtain ⟨k, rfl, k1, k2⟩ := rng v 1 20 (by omega) (by omega) hv
    obtain ⟨c, c1, c2, c3, c4⟩ := yS_cnt kc.1 f rm x z (k * 12)
    obtain ⟨⟨v1, V1⟩, e1, hv1, q1⟩ := X_years kc hS hn (by omega) k1 k2 c1 c2 c3 c4
    have F1 : Fr w_X_years V V1 := fr_X_years _ _ _ _ e1
    obtain ⟨⟨v2, V2⟩, e2, hv2, q2⟩ := M_years (km.fr F1 rfl) hS hn (by omega) F1 rfl (by rw [F1.gi 89 8 rfl]; exact hS.2.2.2.2.1) k1 k2 c1 c3
    have F2 : Fr w_M_years V1 V2 := fr_M_years _ _ _ _ e2
    simp only at hv1 hv2
    subst hv1 hv2
    exact ⟨_, V1, V2, e1, e2, hI.qq F1 F2 rfl rfl rfl rfl (o := some _) (fun r hr => by obtain rfl := Option.some.inj hr; simp [yR]) q1 q2 (hI.x.fr2 F1 F2 rfl rfl)⟩
  · refine ⟨-1, V, si V 89 14 0, ?_, ?_, hI.no 0⟩
    · rw [d_X_years]
      by_cases e : v < 1
      · rw [if_pos e]
      · rw [if_neg e, if_neg (fun e2 => hv ⟨nlt.mp e, e2⟩)]
    · rw [d_M_years, in_eq, bd_some, if_neg (fun hn => hn (tf_neg hv))]
