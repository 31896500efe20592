/-! ===== house: the model takes the lines ===== -/
def wHm : Fw := ([(89, 1), (89, 35), (89, 58)], [90, 91, 92, 93, 94, 95])
theorem s91 (W : ai_V) (k : Nat) (x : Int32) : ga (sa W 91 k x) 98 = ga W 98 := ga_sa_ne (by decide)
theorem s92 (W : ai_V) (k : Nat) (x : Int32) : ga (sa W 92 k x) 98 = ga W 98 := ga_sa_ne (by decide)
theorem s93 (W : ai_V) (k : Nat) (x : Int32) : ga (sa W 93 k x) 98 = ga W 98 := ga_sa_ne (by decide)
theorem s95 (W : ai_V) (k : Nat) (x : Int32) : ga (sa W 95 k x) 98 = ga W 98 := ga_sa_ne (by decide)
theorem h126_go {V : ai_V} {m L : Nat} (q : Nat) (x : Nat) (hm : m < 6) (hL : L < 6) (hx : L < x) (hx6 : x ≤ 6) (h1 : gi V 89 1 = on m) :
    d_M_house_126 (q + 1) (on x) (on L) V = d_M_house_210 (d_M_house_126 q) ai_N (on x) (on L) (on (16 * L)) 0 (sa (sa (sa (sa V 91 m (ga V 98 (16 * L))) 92 m (ga V 98 (16 * L + 1))) 93 m (ga V 98 (16 * L + 2))) 95 m (ga V 98 (16 * L + 3))) := by
  have e16 : (16 : Int32) * on L = on (16 * L) := by rw [show (16 : Int32) = on 16 from rfl, on_mul]
  have e1 : on (16 * L) + (1 : Int32) = on (16 * L + 1) := on_s _
  have e2 : on (16 * L) + (2 : Int32) = on (16 * L + 2) := by rw [show (2 : Int32) = on 2 from rfl, on_add]
  have e3 : on (16 * L) + (3 : Int32) = on (16 * L + 3) := by rw [show (3 : Int32) = on 3 from rfl, on_add]
  have i0 : ai_in (on (16 * L)) 96 := by rw [on_in (by omega)]; omega
  have i1 : ai_in (on (16 * L + 1)) 96 := by rw [on_in (by omega)]; omega
  have i2 : ai_in (on (16 * L + 2)) 96 := by rw [on_in (by omega)]; omega
  have i3 : ai_in (on (16 * L + 3)) 96 := by rw [on_in (by omega)]; omega
  have im : ai_in (on m) 6 := by rw [on_in (by omega)]; omega
  have n0 : (on (16 * L)).toNatClampNeg = 16 * L := on_nn (by omega)
  have n1 : (on (16 * L + 1)).toNatClampNeg = 16 * L + 1 := on_nn (by omega)
  have n2 : (on (16 * L + 2)).toNatClampNeg = 16 * L + 2 := on_nn (by omega)
  have n3 : (on (16 * L + 3)).toNatClampNeg = 16 * L + 3 := on_nn (by omega)
  have nm : (on m).toNatClampNeg = m := on_nn (by omega)
  rw [d_M_house_126, if_neg (by rw [on_le (by omega) (by omega)]; omega)]
  simp only [e16, gi_sa, h1, e1, e2, e3, s91, s92, s93, if_pos i0, if_pos i1, if_pos i2, if_pos i3, if_pos im, n0, n1, n2, n3, nm]
theorem h210_eq {T : Nat → Int32} {m L a w : Nat} {F : Int32 → Int32 → ai_V → Option (Int32 × ai_V)} {x : Int32} (hm : m < 6) (hL : L < 6) (hw : w ≤ 12) : ∀ (r k q : Nat) (V : ai_V) (g : Nat → Int32), k + r = w → gi V 89 1 = on m → ga V 98 (16 * L + 3) = on w → (∀ j, j < w → ga V 98 (16 * L + 4 + j) = T (a + 4 + j) - 48) → ga V 94 = wUp T m (a + 4) k g → r < q →
    ∃ V1, d_M_house_210 F q x (on L) (on (16 * L)) (on k) V = F x (on (L + 1)) (si (sa (sa V1 90 m 0) 90 (6 + m) 0) 89 1 (on (m + 1))) ∧ ga V1 94 = wUp T m (a + 4) w g ∧ Fr ([], [94]) V V1 := by
  intro r
  have e3 : on (16 * L) + (3 : Int32) = on (16 * L + 3) := by rw [show (3 : Int32) = on 3 from rfl, on_add]
  have i3 : ai_in (on (16 * L + 3)) 96 := by rw [on_in (by omega)]; omega
  have n3 : (on (16 * L + 3)).toNatClampNeg = 16 * L + 3 := on_nn (by omega)
  induction r with
  | zero =>
    intro k q V g hk h1 h3 hd h94 hq
    obtain ⟨q, rfl⟩ : ∃ q', q = q' + 1 := ⟨q - 1, by omega⟩
    have hkw : k = w := by omega
    subst hkw
    refine ⟨V, ?_, h94, Fr.rf⟩
    have im : ai_in (on m) 14 := by rw [on_in (by omega)]; omega
    have im6 : ai_in (on (6 + m)) 14 := by rw [on_in (by omega)]; omega
    have e6 : (6 : Int32) + on m = on (6 + m) := by rw [show (6 : Int32) = on 6 from rfl, on_add]
    rw [d_M_house_210, e3, if_pos i3, n3, h3, if_pos (Int32.le_refl _)]
    simp only [gi_sa, h1, e6, if_pos im, if_pos im6, on_s]
    rw [on_nn (by omega), on_nn (by omega)]
  | succ r ih =>
    intro k q V g hk h1 h3 hd h94 hq
    obtain ⟨q, rfl⟩ : ∃ q', q = q' + 1 := ⟨q - 1, by omega⟩
    have e4 : on (16 * L) + (4 : Int32) + on k = on (16 * L + 4 + k) := by rw [show (4 : Int32) = on 4 from rfl, on_add, on_add]
    have e12 : (12 : Int32) * on m + on k = on (12 * m + k) := by rw [show (12 : Int32) = on 12 from rfl, on_mul, on_add]
    have F1 : Fr ([], [94]) V (sa V 94 (12 * m + k) (T (a + 4 + k) - 48)) := Fr.sa Fr.rf rfl
    obtain ⟨V1, e1, a1, F⟩ := ih (k + 1) q (sa V 94 (12 * m + k) (T (a + 4 + k) - 48)) g (by omega) h1 (by rw [F1.ga 98 rfl]; exact h3) (fun j hj => by rw [F1.ga 98 rfl]; exact hd j hj) (by rw [ga_upd, h94, wUp_s]) (by omega)
    refine ⟨V1, ?_, a1, Fr.tr F1 F rfl⟩
    rw [d_M_house_210, e3, if_pos i3, n3, h3, if_neg (by rw [on_le (by omega) (by omega)]; omega), e4, h1, e12, if_pos (by rw [on_in (by omega)]; omega), if_pos (by rw [on_in (by omega)]; omega), on_nn (by omega), on_nn (by omega), hd k (by omega), on_s]
    exact e1
theorem M_take {T : Nat → Int32} {z : Ss} : ∀ (l : List (Nat × Nat)) (L m q x : Nat) (V : ai_V) (A : Ha), x = L + l.length → (∀ i, i < l.length → lD T V (L + i) (l.getD i (0, 0))) → (∀ p ∈ l, p.2 ≤ 12) → mA V A → gi V 89 1 = on m → mS z V 90 0 → (∀ k, k < 6 → m ≤ k → z.2.2.1 k = 0 ∧ z.2.2.2 k = 0) → m + l.length ≤ 6 → L + l.length ≤ 6 → l.length < q →
    ∃ V', d_M_house_126 q (on x) (on L) V = some (on x, V') ∧ gi V' 89 1 = on (m + l.length) ∧ mA V' (adL T m l A) ∧ mS z V' 90 0 ∧ gi V' 89 35 = 0 ∧ gi V' 89 58 = gi V 89 58 + 1 ∧ Fr wHm V V' := by
  intro l
  induction l with
  | nil =>
    intro L m q x V A hx _ _ hA h1 hz _ _ _ hq
    obtain ⟨q, rfl⟩ : ∃ q', q = q' + 1 := ⟨q - 1, by omega⟩
    have hxL : x = L := hx
    subst hxL
    refine ⟨si (si V 89 35 0) 89 58 (gi V 89 58 + 1), ?_, ?_, hA, hz, ?_, ?_, Fr.si (Fr.si Fr.rf rfl) rfl⟩
    · rw [d_M_house_126, if_pos (Int32.le_refl _), show gi (si V 89 35 0) 89 58 = gi V 89 58 by rw [gi_si, if_neg (by decide)]]
    · rw [gi_si, if_neg (by decide), gi_si, if_neg (by decide)]; exact h1
    · rw [gi_si, if_neg (by decide), gi_si, if_pos ⟨rfl, rfl⟩]
    · rw [gi_si, if_pos ⟨rfl, rfl⟩]
  | cons p l ih =>
    intro L m q x V A hx hD hp hA h1 hz hzz hm hL hq
    obtain ⟨q, rfl⟩ : ∃ q', q = q' + 1 := ⟨q - 1, by omega⟩
    rw [List.length_cons] at hx hm hL hq
    obtain ⟨d1, d2, d3, d4, d5⟩ : lD T V L p := hD 0 (by simp)
    obtain ⟨a1, a2, a3, a4, a5⟩ := hA
    obtain ⟨a, w⟩ := p
    simp only at d1 d2 d3 d4 d5
    have hw : w ≤ 12 := hp (a, w) (by simp)
    rw [h126_go q x (by omega) (by omega) (by omega) (by omega) h1, d1, d2, d3, d4]
    have F0 : Fr ([], [91, 92, 93, 95]) V (sa (sa (sa (sa V 91 m (T a - 48)) 92 m (T (a + 1) - 48)) 93 m (T (a + 2) - 48)) 95 m (on w)) := Fr.sa (Fr.sa (Fr.sa (Fr.sa Fr.rf rfl) rfl) rfl) rfl
    have b1 : ga (sa (sa (sa (sa V 91 m (T a - 48)) 92 m (T (a + 1) - 48)) 93 m (T (a + 2) - 48)) 95 m (on w)) 91 = upa A.1 m (T a - 48) := by
      rw [ga_sa_ne (by decide), ga_sa_ne (by decide), ga_sa_ne (by decide), ga_upd, a1]
    have b2 : ga (sa (sa (sa (sa V 91 m (T a - 48)) 92 m (T (a + 1) - 48)) 93 m (T (a + 2) - 48)) 95 m (on w)) 92 = upa A.2.1 m (T (a + 1) - 48) := by
      rw [ga_sa_ne (by decide), ga_sa_ne (by decide), ga_upd, ga_sa_ne (by decide), a2]
    have b3 : ga (sa (sa (sa (sa V 91 m (T a - 48)) 92 m (T (a + 1) - 48)) 93 m (T (a + 2) - 48)) 95 m (on w)) 93 = upa A.2.2.1 m (T (a + 2) - 48) := by
      rw [ga_sa_ne (by decide), ga_upd, ga_sa_ne (by decide), ga_sa_ne (by decide), a3]
    have b5 : ga (sa (sa (sa (sa V 91 m (T a - 48)) 92 m (T (a + 1) - 48)) 93 m (T (a + 2) - 48)) 95 m (on w)) 95 = upa A.2.2.2.2 m (on w) := by
      rw [ga_upd, ga_sa_ne (by decide), ga_sa_ne (by decide), ga_sa_ne (by decide), a5]
    have b58 : gi (sa (sa (sa (sa V 91 m (T a - 48)) 92 m (T (a + 1) - 48)) 93 m (T (a + 2) - 48)) 95 m (on w)) 89 58 = gi V 89 58 := rfl
    have b89 : gi (sa (sa (sa (sa V 91 m (T a - 48)) 92 m (T (a + 1) - 48)) 93 m (T (a + 2) - 48)) 95 m (on w)) 89 1 = on m := h1
    generalize sa (sa (sa (sa V 91 m (T a - 48)) 92 m (T (a + 1) - 48)) 93 m (T (a + 2) - 48)) 95 m (on w) = W at F0 b1 b2 b3 b5 b58 b89
    obtain ⟨V1, e1, g94, F1⟩ := h210_eq (T := T) (a := a) (w := w) (F := d_M_house_126 q) (x := on x) (show m < 6 by omega) (show L < 6 by omega) hw w 0 ai_N W A.2.2.2.1 (by omega) b89 (by rw [F0.ga 98 rfl]; exact d4) (fun j hj => by rw [F0.ga 98 rfl]; exact d5 j hj) (by rw [wUp_0, F0.ga 94 rfl]; exact a4) (N_gt (by omega))
    have F01 : Fr ([], [91, 92, 93, 94, 95]) V V1 := Fr.tr (Fr.tr Fr.rf F0 rfl) F1 rfl
    have F2 : Fr wHm V (si (sa (sa V1 90 m 0) 90 (6 + m) 0) 89 1 (on (m + 1))) := Fr.si (Fr.sa (Fr.sa (Fr.tr Fr.rf F01 rfl) rfl) rfl) rfl
    have F12 : Fr ([(89, 1)], [90]) V1 (si (sa (sa V1 90 m 0) 90 (6 + m) 0) 89 1 (on (m + 1))) := Fr.si (Fr.sa (Fr.sa Fr.rf rfl) rfl) rfl
    have F98 : ga (si (sa (sa V1 90 m 0) 90 (6 + m) 0) 89 1 (on (m + 1))) 98 = ga V 98 := F2.ga 98 rfl
    have hzm := hzz m (by omega) (Nat.le_refl _)
    have Z : mS z (si (sa (sa V1 90 m 0) 90 (6 + m) 0) 89 1 (on (m + 1))) 90 0 := by
      have z1 : mS z V1 90 0 := hz.fr F01 rfl
      obtain ⟨y1, y2, y3⟩ := z1
      simp only [Nat.zero_add] at y1 y2 y3
      refine ⟨?_, ?_, fun k hk => ⟨?_, ?_⟩⟩
      · rw [ga_si, Nat.zero_add, ga_sa, if_neg (by omega), ga_sa, if_neg (by omega)]; exact y1
      · rw [ga_si, Nat.zero_add, ga_sa, if_neg (by omega), ga_sa, if_neg (by omega)]; exact y2
      · rw [ga_si, Nat.zero_add, ga_sa, if_neg (by omega), ga_sa]
        by_cases e : k = m
        · rw [if_pos ⟨rfl, e⟩, e, hzm.1]
        · rw [if_neg (fun h => e h.2)]; exact (y3 k hk).1
      · rw [ga_si, Nat.zero_add, ga_sa]
        by_cases e : k = m
        · rw [if_pos ⟨rfl, by omega⟩, e, hzm.2]
        · rw [if_neg (by omega), ga_sa, if_neg (by omega)]; exact (y3 k hk).2
    have A2 : mA (si (sa (sa V1 90 m 0) 90 (6 + m) 0) 89 1 (on (m + 1))) (ad1 T m (a, w) A) := by
      refine ⟨?_, ?_, ?_, ?_, ?_⟩
      · rw [F12.ga 91 rfl, F1.ga 91 rfl]; exact b1
      · rw [F12.ga 92 rfl, F1.ga 92 rfl]; exact b2
      · rw [F12.ga 93 rfl, F1.ga 93 rfl]; exact b3
      · rw [F12.ga 94 rfl]; exact g94
      · rw [F12.ga 95 rfl, F1.ga 95 rfl]; exact b5
    obtain ⟨V', e', r1, r2, r3, r4, r5, F'⟩ := ih (L + 1) (m + 1) q x (si (sa (sa V1 90 m 0) 90 (6 + m) 0) 89 1 (on (m + 1))) (ad1 T m (a, w) A) (by omega) (fun i hi => by
      have := hD (i + 1) (by rw [List.length_cons]; omega)
      rw [show L + (i + 1) = L + 1 + i by omega] at this
      have h2 : lD T V (L + 1 + i) (l.getD i (0, 0)) := this
      unfold lD at *
      rw [F98]; exact h2) (fun p hp2 => hp p (by simp [hp2])) A2 (by rw [gi_si, if_pos ⟨rfl, rfl⟩]) Z (fun k hk hmk => hzz k hk (by omega)) (by omega) (by omega) (by omega)
    refine ⟨V', ?_, ?_, r2, r3, r4, ?_, Fr.tr F2 F' rfl⟩
    · rw [show (0 : Int32) = on 0 from rfl, e1, e']
    · rw [r1, List.length_cons]; congr 1; omega
    · rw [r5, F12.gi 89 58 rfl, F1.gi 89 58 rfl, b58]
