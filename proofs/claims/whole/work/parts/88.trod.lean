/-! ===== trod, peg, forget ===== -/
def orL (l : List Nat) (x : Int32) : Int32 := l.foldl (fun a b => a ||| on b) x
def anL (l : List Nat) (x : Int32) : Int32 := l.foldl (fun a b => a &&& on b) x
def anA : List Nat → Int32
  | [] => 0
  | b :: l => anL l (on b)
theorem orL_x (l : List Nat) : ∀ x y : Int32, orL l (x ||| y) = x ||| orL l y := by
  induction l with
  | nil => intro x y; rfl
  | cons b l ih =>
    intro x y
    show orL l (x ||| y ||| on b) = x ||| orL l (y ||| on b)
    rw [Int32.or_assoc, ih]
theorem orL_s (l : List Nat) (b : Nat) (x : Int32) : orL (l ++ [b]) x = orL l x ||| on b := by
  unfold orL; rw [List.foldl_append]; rfl
theorem anL_s (l : List Nat) (b : Nat) (x : Int32) : anL (l ++ [b]) x = anL l x &&& on b := by
  unfold anL; rw [List.foldl_append]; rfl
theorem inSome_eq {V : ai_V} {l : List Nat} (h3 : gi V 78 3 = on l.length) (hl : CO V 79 l) (h22 : l.length ≤ 22) : d_Pegs_inSome V = some (orL l 0) := by
  rw [d_Pegs_inSome]
  have := loop_p (fun n (a : Int32) y => d_Pegs_inSome_4 n a y V) (fun c : Int32 => some c) (fun k a => a = orL (l.take k) 0) (fun c => c = orL l 0) l.length ?_ ?_ l.length 0 ai_N 0 (by omega) (N_gt (by omega)) rfl
  · obtain ⟨c, e, rfl⟩ := this
    exact e
  · rintro n a k hk rfl
    left
    show ∃ a' : Int32, d_Pegs_inSome_4 (n + 1) (orL (l.take k) 0) (on k) V = _ ∧ _
    have ht : l.take (k + 1) = l.take k ++ [l.getD k 0] := by rw [List.take_add_one]; simp [hk]
    rw [d_Pegs_inSome_4, h3, if_neg (by rw [on_le (by omega) (by omega)]; omega), if_pos (by rw [on_in (by omega)]; omega), on_nn (by omega), hl k hk, on_s, ht, orL_s]
    exact ⟨_, rfl, rfl⟩
  · rintro n a rfl
    show ∃ c : Int32, d_Pegs_inSome_4 (n + 1) (orL (l.take l.length) 0) (on l.length) V = _ ∧ _
    rw [d_Pegs_inSome_4, h3, if_pos (Int32.le_refl _), List.take_length]
    exact ⟨_, rfl, rfl⟩
theorem inAll_eq {V : ai_V} {l : List Nat} (h3 : gi V 78 3 = on l.length) (hl : CO V 79 l) (h22 : l.length ≤ 22) : d_Pegs_inAll V = some (anA l) := by
  rw [d_Pegs_inAll, h3]
  cases l with
  | nil =>
    rw [if_neg (fun hn => hn rfl), d_Pegs_inAll_17, show ai_N = 19999 + 1 from rfl, d_Pegs_inAll_20, h3, if_pos (by decide)]; rfl
  | cons b l =>
    have hb0 := hl 0 (by simp)
    simp only [List.length_cons] at *
    rw [if_pos (by rw [on_z (by omega)]; omega), d_Pegs_inAll_17, show ((0 : Int32)).toNatClampNeg = 0 from rfl, hb0]
    have := loop_p (fun n (a : Int32) y => d_Pegs_inAll_20 n a y V) (fun c : Int32 => some c) (fun k a => 1 ≤ k ∧ a = anL (l.take (k - 1)) (on b)) (fun c => c = anA (b :: l)) (l.length + 1) ?_ ?_ l.length 1 ai_N (on b) (by omega) (N_gt (by omega)) ⟨by omega, rfl⟩
    · obtain ⟨c, e, rfl⟩ := this
      exact e
    · rintro n a k hk ⟨k1, rfl⟩
      left
      show ∃ a' : Int32, d_Pegs_inAll_20 (n + 1) (anL (l.take (k - 1)) (on b)) (on k) V = _ ∧ _
      have hk2 : k - 1 < l.length := by omega
      have ht : l.take (k + 1 - 1) = l.take (k - 1) ++ [l.getD (k - 1) 0] := by rw [show k + 1 - 1 = k - 1 + 1 by omega, List.take_add_one]; simp [hk2]
      have hv := hl k (by omega)
      have hg : (b :: l).getD k 0 = l.getD (k - 1) 0 := by
        obtain ⟨j, rfl⟩ : ∃ j, k = j + 1 := ⟨k - 1, by omega⟩
        rfl
      rw [d_Pegs_inAll_20, h3, if_neg (by rw [on_le (by omega) (by omega)]; omega), if_pos (by rw [on_in (by omega)]; omega), on_nn (by omega), hv, hg, on_s, ht, anL_s]
      exact ⟨_, rfl, by omega, rfl⟩
    · rintro n a ⟨k1, rfl⟩
      show ∃ c : Int32, d_Pegs_inAll_20 (n + 1) (anL (l.take (l.length + 1 - 1)) (on b)) (on (l.length + 1)) V = _ ∧ _
      rw [d_Pegs_inAll_20, h3, if_pos (Int32.le_refl _), show l.length + 1 - 1 = l.length by omega, List.take_length]
      exact ⟨_, rfl, rfl⟩
abbrev Ts : Type := Nat × Int32 × Int32
def trS (l : List Nat) (a : Ts) : Ts := (min 1000000 (a.1 * l.length), a.2.1 ||| orL l 0, a.2.2 ||| anA l)
def trP (h : Hs) (V : ai_V) (k : Nat) : Ts := fo (fun i a => trS (fs h (ga V 80 i) (ga V 81 i) (2 ^ hm h)) a) k 0 (1, 0, 0)
theorem trP_s (h : Hs) (V : ai_V) (k : Nat) : trP h V (k + 1) = trS (fs h (ga V 80 k) (ga V 81 k) (2 ^ hm h)) (trP h V k) := by unfold trP; rw [fo_s, Nat.zero_add]
theorem trP_le (h : Hs) (V : ai_V) : ∀ k, (trP h V k).1 ≤ 1000000 := by
  intro k
  induction k with
  | zero => show 1 ≤ 1000000; omega
  | succ k ih => rw [trP_s]; show min _ _ ≤ _; omega
def trR (a : Ts) : List Int64 := [(if a.1 = 0 then 0 else a.2.1.toInt64), (if a.1 = 0 then 0 else a.2.2.toInt64)]
theorem fs22 {h : Hs} (hO : HO h) (t w : Int32) : (fs h t w (2 ^ hm h)).length ≤ 22 := by
  have h64 := two_le hO.1
  exact Nat.le_trans (fs_len h t w _) (cnt22 _ (by omega)).1
theorem min_on {a b : Nat} (ha : a < 2147483648) (hb : b < 2147483648) : ai_min (on a) (on b) = on (min a b) := by
  rw [ti_eq, ai_min_ti, on_ti ha, on_ti hb, on_ti (by omega)]; omega
theorem X_trod {V : ai_V} {h : Hs} {p : Nat} (hO : HO h) (hC : CH V h) (p12 : p ≤ 12) (g1 : gi V 78 1 = on p) : ∃ V', d_X_trod V = some (on (trP h V p).1, V') ∧ cRow V' (trR (trP h V p)) := by
  rw [d_X_trod]
  have := loop_n (fun n (a : Ts) y V => d_X_trod_9 n (on a.1) a.2.1 a.2.2 y V) (fun c : Int32 × ai_V => some c) (fun k a V' => a = trP h V k ∧ Fr ([(78, 3)], [79]) V V') (fun c => c.1 = on (trP h V p).1 ∧ cRow c.2 (trR (trP h V p))) p ?_ ?_ p 0 ai_N (1, 0, 0) V (by omega) (N_gt (by omega)) ⟨rfl, Fr.rf⟩
  · obtain ⟨⟨c1, c2⟩, e, q1, q2⟩ := this
    simp only at q1 q2
    subst q1
    exact ⟨c2, e, q2⟩
  · rintro n a k V1 hk ⟨ha, hF⟩
    show ∃ (a' : Ts) (V' : ai_V), d_X_trod_9 (n + 1) (on a.1) a.2.1 a.2.2 (on k) V1 = _ ∧ _
    obtain ⟨V2, e2, a3, a4, F2⟩ := findSets_eq hO (hC.fr hF rfl) (show k < 12 by omega)
    rw [hF.ga 80 rfl, hF.ga 81 rfl] at e2 a3 a4
    have h22 := fs22 hO (ga V 80 k) (ga V 81 k)
    have hs := trP_s h V k
    rw [← ha, trS] at hs
    have hle := trP_le h V k
    rw [← ha] at hle
    have hmul : a.1 * (fs h (ga V 80 k) (ga V 81 k) (2 ^ hm h)).length ≤ 1000000 * 22 := Nat.mul_le_mul hle h22
    rw [d_X_trod_9, hF.gi 78 1 rfl, g1, if_neg (by rw [on_le (by omega) (by omega)]; omega), e2, bd_some, inSome_eq a3 a4 h22, bd_some, inAll_eq a3 a4 h22, bd_some, on_s]
    simp only
    rw [on_mul, show (1000000 : Int32) = on 1000000 from rfl, min_on (by omega) (by omega)]
    exact ⟨(_, _, _), V2, rfl, hs.symm, Fr.tr hF F2 rfl⟩
  · rintro n a V1 ⟨ha, hF⟩
    show ∃ c : Int32 × ai_V, d_X_trod_9 (n + 1) (on a.1) a.2.1 a.2.2 (on p) V1 = _ ∧ _
    have hle := trP_le h V p
    rw [← ha] at hle
    rw [d_X_trod_9, hF.gi 78 1 rfl, g1, if_pos (Int32.le_refl _), ← ha]
    by_cases e : a.1 = 0
    · obtain ⟨V2, e2, c2, -⟩ := tell2 (Int64.ofNat 0) (Int64.ofNat 0) V1
      have e0 : on a.1 = 0 := by rw [e]; rfl
      rw [if_neg (fun hn => hn e0), d_X_trod_83, if_neg (fun hn => hn e0), d_X_trod_93, e2, bd_some]
      exact ⟨_, rfl, rfl, by rw [trR, if_pos e, if_pos e]; exact c2⟩
    · obtain ⟨V2, e2, c2, -⟩ := tell2 a.2.1.toInt64 a.2.2.toInt64 V1
      have e0 : ¬ on a.1 = 0 := by rw [on_z (by omega)]; exact e
      rw [if_pos e0, d_X_trod_83, if_pos e0, d_X_trod_93, e2, bd_some]
      exact ⟨_, rfl, rfl, by rw [trR, if_neg e, if_neg e]; exact c2⟩
theorem an_all : ∀ m, m < 7 → ∀ b, b < 2 ^ m → (on (2 ^ m) - (1 : Int32)) &&& on b = on b := by decide +kernel
theorem anL_all {m : Nat} (h6 : m ≤ 6) {l : List Nat} (hl : ∀ b ∈ l, b < 2 ^ m) (h0 : l ≠ []) : anL l (on (2 ^ m) - 1) = anA l := by
  cases l with
  | nil => exact absurd rfl h0
  | cons b l =>
    show anL l ((on (2 ^ m) - 1) &&& on b) = anL l (on b)
    rw [an_all m (by omega) b (hl b (by simp))]
theorem ofN (n : Nat) (hn : n < 2147483648) : (Int64.ofNat n).toInt = n := Int64.toInt_ofNat_of_lt (by omega)
theorem minL_on {a b : Nat} (ha : a < 2147483648) (hb : b < 2147483648) : ai_minL (Int64.ofNat a) (Int64.ofNat b) = Int64.ofNat (min a b) := by
  rw [t6_eq, ofN _ (by omega)]
  unfold ai_minL
  by_cases e : Int64.ofNat b < Int64.ofNat a
  · rw [if_pos e, ofN b hb]; rw [t6_lt, ofN a ha, ofN b hb] at e; omega
  · rw [if_neg e, ofN a ha]; rw [t6_lt, ofN a ha, ofN b hb] at e; omega
theorem on64 (n : Nat) (hn : n < 2147483648) : (on n).toInt64 = Int64.ofNat n := by
  rw [t6_eq, t6_of, on_ti hn, ofN n hn]
theorem cmp0 (n : Nat) (hn : n < 2147483648) : (lg_cmp (Int64.ofNat n) (Int64.ofNat 0) = 0) ↔ n = 0 := by
  unfold lg_cmp
  by_cases e : n = 0
  · subst e; simp
  · have h1 : Int64.ofNat n > Int64.ofNat 0 := by
      show Int64.ofNat 0 < Int64.ofNat n
      rw [t6_lt, ofN n hn, ofN 0 (by omega)]; omega
    rw [if_pos h1]
    exact ⟨fun h => absurd h (by decide), fun h => absurd h e⟩
theorem M_trod {V W : ai_V} {h : Hs} {p : Nat} (hO : HO h) (hM : MH V h) (p12 : p ≤ 12) (g2 : gi V 89 55 = on p) (g3 : ∀ i, i < p → ga W 80 i = ga V 114 (2 * i) ∧ ga W 81 i = ga V 114 (2 * i + 1)) : ∃ V', d_M_trod V = some (on (trP h W p).1, V') ∧ mRow V' (trR (trP h W p)) := by
  have h6 := hO.1
  have h64 := two_le h6
  have hM1 : MH (si V 89 14 0) h := hM.fr (w := ([(89, 14)], [])) (Fr.si Fr.rf rfl) rfl
  rw [d_M_trod]
  have := loop_n (fun n (a : Ts) y V => d_M_trod_15 n (Int64.ofNat a.1) a.2.1 a.2.2 y V) (fun c : Int32 × ai_V => some c) (fun k a V' => a = trP h W k ∧ V' = si V 89 14 0) (fun c => c.1 = on (trP h W p).1 ∧ mRow c.2 (trR (trP h W p))) p ?_ ?_ p 0 ai_N (1, 0, 0) (si V 89 14 0) (by omega) (N_gt (by omega)) ⟨rfl, rfl⟩
  · obtain ⟨⟨c1, c2⟩, e, q1, q2⟩ := this
    simp only at q1 q2
    subst q1
    exact ⟨c2, e, q2⟩
  · rintro n a k V1 hk ⟨ha, rfl⟩
    show ∃ (a' : Ts) (V' : ai_V), d_M_trod_15 (n + 1) (Int64.ofNat a.1) a.2.1 a.2.2 (on k) (si V 89 14 0) = _ ∧ _
    have hle := trP_le h W k
    rw [← ha] at hle
    have hs := trP_s h W k
    rw [← ha, trS] at hs
    rw [d_M_trod_15, m14 _ _ 89 55 (by decide), g2, if_neg (by rw [on_le (by omega) (by omega)]; omega), hM1.1, pw_eq _ (by omega)]
    have h22 := fs22 hO (ga W 80 k) (ga W 81 k)
    have inner := loop_p (fun q (t : Int32 × Nat × Int32) y => d_M_trod_40 (d_M_trod_15 n) q (Int64.ofNat a.1) t.1 a.2.2 (on k) (on t.2.1) t.2.2 y (si V 89 14 0)) (fun c : Option (Int32 × ai_V) => c) (fun b t => t = (orL (fs h (ga W 80 k) (ga W 81 k) b) a.2.1, (fs h (ga W 80 k) (ga W 81 k) b).length, anL (fs h (ga W 80 k) (ga W 81 k) b) (on (2 ^ hm h) - 1))) (fun c => c = d_M_trod_15 n (Int64.ofNat (trP h W (k + 1)).1) (trP h W (k + 1)).2.1 (trP h W (k + 1)).2.2 (on (k + 1)) (si V 89 14 0)) (2 ^ hm h) ?_ ?_ (2 ^ hm h) 0 ai_N (a.2.1, 0, on (2 ^ hm h) - 1) (by omega) (N_gt (by omega)) rfl
    · obtain ⟨c, e, hc⟩ := inner
      have e' : d_M_trod_40 (d_M_trod_15 n) ai_N (Int64.ofNat a.1) a.2.1 a.2.2 (on k) 0 (on (2 ^ hm h) - 1) 0 (si V 89 14 0) = c := e
      rw [e', hc]
      exact ⟨trP h W (k + 1), _, rfl, rfl, rfl⟩
    · rintro q t b hb rfl
      left
      show ∃ a' : Int32 × Nat × Int32, d_M_trod_40 (d_M_trod_15 n) (q + 1) (Int64.ofNat a.1) (orL (fs h (ga W 80 k) (ga W 81 k) b) a.2.1) a.2.2 (on k) (on (fs h (ga W 80 k) (ga W 81 k) b).length) (anL (fs h (ga W 80 k) (ga W 81 k) b) (on (2 ^ hm h) - 1)) (on b) (si V 89 14 0) = _ ∧ _
      rw [d_M_trod_40, hM1.1, pw_eq _ (by omega), if_neg (by rw [on_le (by omega) (by omega)]; omega), canBe_eq hO hM1 hb (by omega), bd_some, ga_si, ← (g3 k hk).1, ← (g3 k hk).2, fs_s]
      by_cases e : agD h (ga W 80 k) (ga W 81 k) b = true
      · rw [if_pos e, if_pos (by decide), if_pos e, d_M_trod_80, on_s, on_s, orL_s, anL_s]
        exact ⟨(_, _, _), rfl, by simp⟩
      · rw [if_neg e, if_neg (fun hn => hn rfl), if_neg e, d_M_trod_80, on_s, List.append_nil]
        exact ⟨(_, _, _), rfl, rfl⟩
    · rintro q t rfl
      show ∃ c : Option (Int32 × ai_V), d_M_trod_40 (d_M_trod_15 n) (q + 1) (Int64.ofNat a.1) (orL (fs h (ga W 80 k) (ga W 81 k) (2 ^ hm h)) a.2.1) a.2.2 (on k) (on (fs h (ga W 80 k) (ga W 81 k) (2 ^ hm h)).length) (anL (fs h (ga W 80 k) (ga W 81 k) (2 ^ hm h)) (on (2 ^ hm h) - 1)) (on (2 ^ hm h)) (si V 89 14 0) = _ ∧ _
      have hmem : ∀ b ∈ fs h (ga W 80 k) (ga W 81 k) (2 ^ hm h), b < 2 ^ hm h := fun b hb => fs_mem hb
      rw [d_M_trod_40, hM1.1, pw_eq _ (by omega), if_pos (Int32.le_refl _), hs]
      generalize fs h (ga W 80 k) (ga W 81 k) (2 ^ hm h) = l at *
      have hmul : a.1 * l.length ≤ 1000000 * 22 := Nat.mul_le_mul hle h22
      have hprod : ai_minL (Int64.ofNat 1000000) (Int64.ofNat a.1 * (on l.length).toInt64) = Int64.ofNat (min 1000000 (a.1 * l.length)) := by
        rw [on64 _ (by omega), ← Int64.ofNat_mul, minL_on (by omega) (by omega)]
      have hor : orL l a.2.1 = a.2.1 ||| orL l 0 := by
        have := orL_x l a.2.1 0
        rw [Int32.or_zero] at this; exact this
      by_cases e : l = []
      · have el : l.length = 0 := by rw [e]; rfl
        rw [if_pos (by rw [el]; decide), d_M_trod_98, on_s, hprod, hor]
        have : a.2.2 ||| anA l = a.2.2 := by rw [e]; exact Int32.or_zero
        rw [this]
        exact ⟨_, rfl, rfl⟩
      · have el : l.length ≠ 0 := fun h0 => e (List.length_eq_zero_iff.mp h0)
        rw [if_neg (by rw [zero_on, on_le (by omega) (by omega)]; omega), d_M_trod_98, on_s, hprod, hor, anL_all h6 hmem e]
        exact ⟨_, rfl, rfl⟩
  · rintro n a V1 ⟨ha, rfl⟩
    show ∃ c : Int32 × ai_V, d_M_trod_15 (n + 1) (Int64.ofNat a.1) a.2.1 a.2.2 (on p) (si V 89 14 0) = _ ∧ _
    have hle := trP_le h W p
    rw [← ha] at hle
    have h32 : (Int64.ofNat a.1).toInt32 = on a.1 := by
      rw [ti_eq, t6_32 (by rw [ofN _ (by omega)]; omega) (by rw [ofN _ (by omega)]; omega), ofN _ (by omega), on_ti (by omega)]
    rw [d_M_trod_15, m14 _ _ 89 55 (by decide), g2, if_pos (Int32.le_refl _), ← ha]
    by_cases e : a.1 = 0
    · have hc := (cmp0 a.1 (by omega)).mpr e
      obtain ⟨V2, e2, c2, -⟩ := m_tell (m_row0 (si V 89 14 0)) (by simp) (Int64.ofNat 0)
      obtain ⟨V3, e3, c3, -⟩ := m_tell c2 (by simp) (Int64.ofNat 0)
      rw [if_neg (fun hn => hn hc), d_M_trod_134, e2, bd_some, if_neg (fun hn => hn hc), d_M_trod_151, e3, bd_some, h32]
      exact ⟨_, rfl, rfl, by rw [trR, if_pos e, if_pos e]; exact c3⟩
    · have hc : ¬ lg_cmp (Int64.ofNat a.1) (Int64.ofNat 0) = 0 := fun hh => e ((cmp0 a.1 (by omega)).mp hh)
      obtain ⟨V2, e2, c2, -⟩ := m_tell (m_row0 (si V 89 14 0)) (by simp) a.2.1.toInt64
      obtain ⟨V3, e3, c3, -⟩ := m_tell c2 (by simp) a.2.2.toInt64
      rw [if_pos hc, d_M_trod_134, e2, bd_some, if_pos hc, d_M_trod_151, e3, bd_some, h32]
      exact ⟨_, rfl, rfl, by rw [trR, if_neg e, if_neg e]; exact c3⟩
theorem st_trod {N : Nat} {V : ai_V} (hI : Inv N V) (hN : N < 512) : Step N V d_X_trod d_M_trod := by
  obtain ⟨h, f, z, rm, nw, kc, km, hS, hn, hb⟩ := hI.k
  obtain ⟨p, p12, g1, g2, g3⟩ := hI.g.p
  obtain ⟨V1, e1, c1⟩ := X_trod kc.1 kc.2.1 p12 g1
  have F1 : Fr w_X_trod V V1 := fr_X_trod _ _ e1
  obtain ⟨V2, e2, c2⟩ := M_trod (W := V) kc.1 (km.2.1.fr F1 rfl) p12 (by rw [F1.gi 89 55 rfl]; exact g2) (fun i hi => by rw [F1.ga 114 rfl]; exact g3 i hi)
  have F2 : Fr w_M_trod V1 V2 := fr_M_trod _ _ e2
  exact ⟨_, V1, V2, e1, e2, hI.qq F1 F2 rfl rfl rfl rfl (o := some _) (fun r hr => by obtain rfl := Option.some.inj hr; simp [trR]) c1 c2 (hI.x.fr2 F1 F2 rfl rfl)⟩
/-- a call that changes the readings alone -/
theorem Inv.pg {N : Nat} {V V2 : ai_V} {w : Fw} (hI : Inv N V) (F : Fr w V V2) (hd : fw_sub w ([(78, 1), (89, 14), (89, 55)], [80, 81, 114]) = true) (hG : IG V2) : Inv (N + 1) V2 := by
  have F' : Fr ([(78, 1), (89, 14), (89, 55)], [80, 81, 114]) V V2 := Fr.tr Fr.rf F hd
  obtain ⟨h, f, z, rm, h1, h2, h3, h4, h5, h6, h7, h8, -, h10⟩ := hI
  exact ⟨h, f, z, rm, h1.sm (Sm.of F' rfl), h2.sm (Sm.of F' rfl), h3.sm (Sm.of F' rfl), h4.sm (Sm.of F' rfl) (by omega), h5.sm (Sm.of F' rfl), h6.sm (Sm.of F' rfl) (by omega), h7.sm (Sm.of F' rfl) (by omega), h8.sm (Sm.of F' rfl), hG, h10.sm (Sm.of F' rfl)⟩
theorem st_forget {N : Nat} {V : ai_V} (hI : Inv N V) (hN : N < 512) : Step N V d_X_forget d_M_forget := by
  obtain ⟨p, p12, g1, g2, g3⟩ := hI.g.p
  refine ⟨on p, si V 78 1 0, si (si (si V 78 1 0) 89 14 0) 89 55 0, ?_, ?_, ?_⟩
  · rw [d_X_forget, g1]
  · rw [d_M_forget, m14 _ _ 89 55 (by decide), gi_si, if_neg (by decide), g2]
  · refine hI.pg (w := ([(78, 1), (89, 14), (89, 55)], [])) (Fr.si (Fr.si (Fr.si Fr.rf rfl) rfl) rfl) rfl ⟨0, by omega, ?_, ?_, fun i hi => absurd hi (by omega)⟩
    · rw [gi_si, if_neg (by decide), gi_si, if_neg (by decide), gi_si, if_pos ⟨rfl, rfl⟩]; rfl
    · rw [gi_si, if_pos ⟨rfl, rfl⟩]; rfl
theorem st_peg {N : Nat} {V : ai_V} (hI : Inv N V) (hN : N < 512) (x y : Int32) : Step N V (d_X_peg x y) (d_M_peg x y) := by
  obtain ⟨p, p12, g1, g2, g3⟩ := hI.g.p
  by_cases hx : (0 ≤ x ∧ x ≤ 9) ∧ (-1 ≤ y ∧ y ≤ 18)
  · obtain ⟨hx1, hy1⟩ := hx
    by_cases hp : p < 12
    · have hn1 := on_nn (show p < 2147483648 by omega)
      have X : d_X_peg x y V = some (on (p + 1), si (sa (sa V 80 p x) 81 p y) 78 1 (on (p + 1))) := by
        rw [d_X_peg, if_neg (nlt.mpr hx1.1), if_neg (nlt.mpr hx1.2), if_neg (nlt.mpr hy1.1), if_pos hy1.2, d_Pegs_add, g1, if_pos (by rw [show (12 : Int32) = on 12 from rfl, on_lt (by omega) (by omega)]; exact hp), if_pos (by rw [on_in (by omega)]; exact hp), gi_sa, gi_sa, gi_sa, g1, if_pos (by rw [on_in (by omega)]; exact hp), bd_some, if_neg (show ¬ (1 : Int32) = 0 by decide), hn1, on_s, gi_si, if_pos ⟨rfl, rfl⟩]
      refine ⟨_, _, si (sa (sa (si (si (sa (sa V 80 p x) 81 p y) 78 1 (on (p + 1))) 89 14 0) 114 (2 * p) x) 114 (2 * p + 1) y) 89 55 (on (p + 1)), X, ?_, ?_⟩
      · have h55 : gi (si (si (sa (sa V 80 p x) 81 p y) 78 1 (on (p + 1))) 89 14 0) 89 55 = on p := by
          rw [gi_si, if_neg (by decide), gi_si, if_neg (by decide), gi_sa, gi_sa, g2]
        rw [d_M_peg, in_eq, bd_some, if_neg (by rw [tf_pos hx1]; decide), in_eq, bd_some, if_pos (by rw [tf_pos hy1]; decide)]
        generalize si (si (sa (sa V 80 p x) 81 p y) 78 1 (on (p + 1))) 89 14 0 = W at *
        rw [gi_sa, gi_sa, h55, if_pos (by rw [show (12 : Int32) = on 12 from rfl, on_inj (by omega) (by omega)]; omega), show (2 : Int32) = on 2 from rfl, on_mul, on_s, if_pos (by rw [on_in (by omega)]; omega), if_pos (by rw [on_in (by omega)]; omega), on_nn (by omega), on_nn (by omega), gi_sa, h55, on_s, gi_si, if_pos ⟨rfl, rfl⟩]
      · refine hI.pg (w := ([(78, 1), (89, 14), (89, 55)], [80, 81, 114])) (Fr.si (Fr.sa (Fr.sa (Fr.si (Fr.si (Fr.sa (Fr.sa Fr.rf rfl) rfl) rfl) rfl) rfl) rfl) rfl) rfl ⟨p + 1, by omega, ?_, ?_, fun i hi => ?_⟩
        · rw [gi_si, if_neg (by decide), gi_sa, gi_sa, gi_si, if_neg (by decide), gi_si, if_pos ⟨rfl, rfl⟩]
        · rw [gi_si, if_pos ⟨rfl, rfl⟩]
        · simp only [ga_si, ga_sa]
          by_cases e : i = p
          · subst e; simp
          · have := g3 i (by omega)
            simp [e, show ¬ 2 * i = 2 * p + 1 by omega, show ¬ 2 * i + 1 = 2 * p by omega, show ¬ 2 * i = 2 * p by omega, this.1, this.2]
    · have hp12 : p = 12 := by omega
      subst hp12
      refine ⟨-2, V, si V 89 14 0, ?_, ?_, hI.no 0⟩
      · rw [d_X_peg, if_neg (nlt.mpr hx1.1), if_neg (nlt.mpr hx1.2), if_neg (nlt.mpr hy1.1), if_pos hy1.2, d_Pegs_add, g1, if_neg (by decide), bd_some, if_pos rfl]
      · rw [d_M_peg, in_eq, bd_some, if_neg (by rw [tf_pos hx1]; decide), in_eq, bd_some, if_pos (by rw [tf_pos hy1]; decide), m14 _ _ 89 55 (by decide), g2, if_neg (fun hn => hn rfl)]
  · refine ⟨-1, V, si V 89 14 0, ?_, ?_, hI.no 0⟩
    · rw [d_X_peg]
      by_cases e1 : x < 0
      · rw [if_pos e1]
      · rw [if_neg e1]
        by_cases e2 : 9 < x
        · rw [if_pos e2]
        · rw [if_neg e2]
          by_cases e3 : y < -1
          · rw [if_pos e3]
          · rw [if_neg e3, if_neg (fun e4 => hx ⟨⟨nlt.mp e1, nlt.mp e2⟩, nlt.mp e3, e4⟩)]
    · rw [d_M_peg, in_eq, bd_some]
      by_cases e1 : 0 ≤ x ∧ x ≤ 9
      · rw [if_neg (by rw [tf_pos e1]; decide), in_eq, bd_some, if_neg (fun hn => hn (tf_neg (fun hc => hx ⟨e1, hc⟩)))]
      · rw [if_pos (tf_neg e1)]
