/-! ===== house: the class's arrays ===== -/
def wHo : Fw := ([(3, 0)], [4, 5, 6, 7, 8, 9])
theorem td_0 {V : ai_V} {m : Nat} (h3 : gi V 3 0 = on m) (hm : m < 6) (x : Int32) : d_House_takeDigit (on 0) x V = some (sa V 4 m x) := by
  rw [d_House_takeDigit, if_neg (fun hn => hn rfl), h3, if_pos (by rw [on_in (by omega)]; omega), on_nn (by omega)]
theorem td_1 {V : ai_V} {m : Nat} (h3 : gi V 3 0 = on m) (hm : m < 6) (x : Int32) : d_House_takeDigit (on 1) x V = some (sa V 5 m x) := by
  rw [d_House_takeDigit, if_pos (by decide), if_neg (fun hn => hn rfl), h3, if_pos (by rw [on_in (by omega)]; omega), on_nn (by omega)]
theorem td_2 {V : ai_V} {m : Nat} (h3 : gi V 3 0 = on m) (hm : m < 6) (x : Int32) : d_House_takeDigit (on 2) x V = some (sa V 6 m x) := by
  rw [d_House_takeDigit, if_pos (by decide), if_pos (by decide), if_neg (fun hn => hn rfl), h3, if_pos (by rw [on_in (by omega)]; omega), on_nn (by omega)]
theorem td_3 {V : ai_V} (x : Int32) : d_House_takeDigit (on 3) x V = some V := by
  rw [d_House_takeDigit, if_pos (by decide), if_pos (by decide), if_pos (by decide), if_pos (by decide)]
theorem td_4 {V : ai_V} {m k : Nat} (h3 : gi V 3 0 = on m) (hm : m < 6) (hk : k < 12) (x : Int32) : d_House_takeDigit (on (4 + k)) x V = some (sa (sa V 7 (12 * m + k) x) 8 m (on (k + 1))) := by
  have ne : ∀ j, j < 4 → ¬ on (4 + k) = on j := fun j hj => by rw [on_inj (by omega) (by omega)]; omega
  have e4 : on (4 + k) - (4 : Int32) = on k := by rw [show (4 : Int32) = on 4 from rfl, on_sub (by omega), show 4 + k - 4 = k by omega]
  rw [d_House_takeDigit, if_pos (show ¬ on (4 + k) = (0 : Int32) from ne 0 (by omega)), if_pos (show ¬ on (4 + k) = (1 : Int32) from ne 1 (by omega)), if_pos (show ¬ on (4 + k) = (2 : Int32) from ne 2 (by omega)), e4, if_neg (by rw [on_n0 (by omega)]; exact id), if_neg (by rw [show (12 : Int32) = on 12 from rfl, on_le (by omega) (by omega)]; omega), gi_sa, h3, show (12 : Int32) = on 12 from rfl, on_mul, on_add, if_pos (by rw [on_in (by omega)]; omega), if_pos (by rw [on_in (by omega)]; omega), on_nn (by omega), on_nn (by omega), on_s, Nat.mul_comm m 12]
theorem tl_step {V : ai_V} {n m s i : Nat} (q : Nat) (hn : n ≤ 80) (h1 : gi V 1 1 = on n) (h3 : gi V 3 0 = on m) (hm : m < 6) (hi : i < n) :
    (¬ ga V 2 i = 59 → d_House_takeLines_4 (q + 1) (on s) (on i) V = (d_House_takeDigit (on s) (ga V 2 i - 48) V).bind fun q3 => d_House_takeLines_4 q (on (s + 1)) (on (i + 1)) q3) ∧
    (ga V 2 i = 59 → d_House_takeLines_4 (q + 1) (on s) (on i) V = d_House_takeLines_4 q (on 0) (on (i + 1)) (si V 3 0 (on (m + 1)))) := by
  rw [d_House_takeLines_4, h1, if_neg (by rw [on_le (by omega) (by omega)]; omega), h3, if_neg (by rw [show (6 : Int32) = on 6 from rfl, on_le (by omega) (by omega)]; omega), at_y hn h1 hi, bd_some]
  refine ⟨fun h => ?_, fun h => ?_⟩
  · rw [if_pos h]
    simp only [d_House_takeLines_63, on_s]
  · rw [if_neg (fun hn => hn h), d_House_takeLines_63, on_s, on_s]; rfl
/-- the class's numbers while it takes: text and house -/
def tlR (V0 V : ai_V) (m : Nat) (A : Ha) : Prop := gi V 3 0 = on m ∧ cA V A ∧ Fr wHo V0 V
theorem tl_wants {V0 : ai_V} {n m a : Nat} {A : Ha} (hn : n ≤ 80) (h1 : gi V0 1 1 = on n) (hm : m < 6) : ∀ (r k q : Nat) (V : ai_V) (B : Ha), tlR V0 V m B → B.2.2.2.1 = wUp (ga V0 2) m (a + 4) k A.2.2.2.1 → k + r ≤ 12 → (∀ j, j < k + r → btw (ga V0 2 (a + 4 + j)) 48 57) → a + 4 + (k + r) ≤ n → r < q →
    ∃ q' V', q ≤ q' + r ∧ d_House_takeLines_4 q (on (4 + k)) (on (a + 4 + k)) V = d_House_takeLines_4 q' (on (4 + (k + r))) (on (a + 4 + (k + r))) V' ∧ tlR V0 V' m (B.1, B.2.1, B.2.2.1, wUp (ga V0 2) m (a + 4) (k + r) A.2.2.2.1, if r = 0 then B.2.2.2.2 else upa B.2.2.2.2 m (on (k + r))) := by
  intro r
  induction r with
  | zero =>
    intro k q V B hR hw hk hd he hq
    refine ⟨q, V, by omega, rfl, hR.1, ?_, hR.2.2⟩
    obtain ⟨c1, c2, c3, c4, c5⟩ := hR.2.1
    exact ⟨c1, c2, c3, by rw [c4, hw]; rfl, by rw [if_pos rfl]; exact c5⟩
  | succ r ih =>
    intro k q V B hR hw hk hd he hq
    obtain ⟨q, rfl⟩ : ∃ q', q = q' + 1 := ⟨q - 1, by omega⟩
    obtain ⟨h3, ⟨c1, c2, c3, c4, c5⟩, F⟩ := hR
    have T0 : ga V 2 = ga V0 2 := F.ga 2 rfl
    have hdk := hd k (by omega)
    have st := (tl_step (s := 4 + k) q hn (by rw [F.gi 1 1 rfl]; exact h1) h3 hm (show a + 4 + k < n by omega)).1 (by rw [T0]; exact n59 hdk.2)
    rw [T0, td_4 h3 hm (by omega), bd_some] at st
    have hR' : tlR V0 (sa (sa V 7 (12 * m + k) (ga V0 2 (a + 4 + k) - 48)) 8 m (on (k + 1))) m (B.1, B.2.1, B.2.2.1, wUp (ga V0 2) m (a + 4) (k + 1) A.2.2.2.1, upa B.2.2.2.2 m (on (k + 1))) := by
      refine ⟨by rw [gi_sa, gi_sa]; exact h3, ⟨?_, ?_, ?_, ?_, ?_⟩, Fr.sa (Fr.sa F rfl) rfl⟩
      · rw [ga_sa_ne (by decide), ga_sa_ne (by decide)]; exact c1
      · rw [ga_sa_ne (by decide), ga_sa_ne (by decide)]; exact c2
      · rw [ga_sa_ne (by decide), ga_sa_ne (by decide)]; exact c3
      · rw [ga_sa_ne (by decide), ga_upd, c4, hw, wUp_s]
      · rw [ga_upd, ga_sa_ne (by decide), c5]
    obtain ⟨q', V', hq', e', r'⟩ := ih (k + 1) q _ _ hR' rfl (by omega) (fun j hj => hd j (by omega)) (by omega) (by omega)
    refine ⟨q', V', by omega, ?_, ?_⟩
    · rw [st, show k + (r + 1) = k + 1 + r by omega]
      exact e'
    · rw [show k + (r + 1) = k + 1 + r by omega, if_neg (by omega)]
      have hu : (if r = 0 then upa B.2.2.2.2 m (on (k + 1)) else upa (upa B.2.2.2.2 m (on (k + 1))) m (on (k + 1 + r))) = upa B.2.2.2.2 m (on (k + 1 + r)) := by
        by_cases e : r = 0
        · rw [if_pos e, e]
        · rw [if_neg e]
          funext i
          unfold upa
          by_cases ei : i = m
          · rw [if_pos ei, if_pos ei]
          · rw [if_neg ei, if_neg ei, if_neg ei]
      rw [← hu]; exact r'
theorem tl_line {V0 V : ai_V} {n m a w q : Nat} {A : Ha} (hn : n ≤ 80) (h1 : gi V0 1 1 = on n) (hm : m < 6) (hR : tlR V0 V m A) (ok : lineOk (ga V0 2) n (a, w)) (hq : n - a < q) :
    ∃ q' V', n - (a + 4 + w) < q' ∧ d_House_takeLines_4 q (on 0) (on a) V = d_House_takeLines_4 q' (on (4 + w)) (on (a + 4 + w)) V' ∧ tlR V0 V' m (ad1 (ga V0 2) m (a, w) A) := by
  obtain ⟨o1, o2, o3, o4, o5, o6, o7, o8⟩ := ok
  simp only at o1 o2 o3 o4 o5 o6 o7 o8
  obtain ⟨q, rfl⟩ : ∃ q', q = q' + 1 + 1 + 1 + 1 := ⟨q - 4, by omega⟩
  obtain ⟨h3, ⟨c1, c2, c3, c4, c5⟩, F⟩ := hR
  have le57 : ga V0 2 a ≤ 57 := Int32.le_trans o1.2 (by decide)
  have G : ∀ (W : ai_V) (s i r : Nat), gi W 3 0 = on m → Fr wHo V0 W → i < n → ¬ ga V0 2 i = 59 → d_House_takeLines_4 (r + 1) (on s) (on i) W = (d_House_takeDigit (on s) (ga V0 2 i - 48) W).bind fun q3 => d_House_takeLines_4 r (on (s + 1)) (on (i + 1)) q3 := by
    intro W s i r hW FW hi h9
    have T0 : ga W 2 = ga V0 2 := FW.ga 2 rfl
    have := (tl_step (s := s) r hn (by rw [FW.gi 1 1 rfl]; exact h1) hW hm hi).1 (by rw [T0]; exact h9)
    rw [T0] at this; exact this
  have F1 : Fr wHo V0 (sa V 4 m (ga V0 2 a - 48)) := Fr.sa F rfl
  have F2 : Fr wHo V0 (sa (sa V 4 m (ga V0 2 a - 48)) 5 m (ga V0 2 (a + 1) - 48)) := Fr.sa F1 rfl
  have F3 : Fr wHo V0 (sa (sa (sa V 4 m (ga V0 2 a - 48)) 5 m (ga V0 2 (a + 1) - 48)) 6 m (ga V0 2 (a + 2) - 48)) := Fr.sa F2 rfl
  have hR3 : tlR V0 (sa (sa (sa V 4 m (ga V0 2 a - 48)) 5 m (ga V0 2 (a + 1) - 48)) 6 m (ga V0 2 (a + 2) - 48)) m (upa A.1 m (ga V0 2 a - 48), upa A.2.1 m (ga V0 2 (a + 1) - 48), upa A.2.2.1 m (ga V0 2 (a + 2) - 48), A.2.2.2.1, A.2.2.2.2) := by
    refine ⟨h3, ⟨?_, ?_, ?_, ?_, ?_⟩, F3⟩
    · rw [ga_sa_ne (by decide), ga_sa_ne (by decide), ga_upd, c1]
    · rw [ga_sa_ne (by decide), ga_upd, ga_sa_ne (by decide), c2]
    · rw [ga_upd, ga_sa_ne (by decide), ga_sa_ne (by decide), c3]
    · rw [ga_sa_ne (by decide), ga_sa_ne (by decide), ga_sa_ne (by decide), c4]
    · rw [ga_sa_ne (by decide), ga_sa_ne (by decide), ga_sa_ne (by decide), c5]
  obtain ⟨q', V', hq', e', r'⟩ := tl_wants (a := a) (A := A) hn h1 hm w 0 q _ _ hR3 (by rw [wUp_0]) (by omega) (fun j hj => o7 j (by omega)) (by omega) (by omega)
  rw [Nat.zero_add] at e' r'
  refine ⟨q', V', by omega, ?_, ?_⟩
  · have E1 := G V 0 a (q + 1 + 1 + 1) h3 F (by omega) (n59 le57)
    rw [td_0 h3 hm, bd_some] at E1
    have E2 := G (sa V 4 m (ga V0 2 a - 48)) 1 (a + 1) (q + 1 + 1) h3 F1 (by omega) (n59 o2.2)
    rw [td_1 (V := sa V 4 m (ga V0 2 a - 48)) h3 hm, bd_some] at E2
    have E3 := G (sa (sa V 4 m (ga V0 2 a - 48)) 5 m (ga V0 2 (a + 1) - 48)) 2 (a + 2) (q + 1) h3 F2 (by omega) (n59 o3.2)
    rw [td_2 (V := sa (sa V 4 m (ga V0 2 a - 48)) 5 m (ga V0 2 (a + 1) - 48)) h3 hm, bd_some] at E3
    have E4 := G (sa (sa (sa V 4 m (ga V0 2 a - 48)) 5 m (ga V0 2 (a + 1) - 48)) 6 m (ga V0 2 (a + 2) - 48)) 3 (a + 3) q h3 F3 (by omega) (by rw [o4]; decide)
    rw [td_3, bd_some] at E4
    exact E1.trans (E2.trans (E3.trans (E4.trans e')))
  · rw [if_neg (by omega)] at r'
    exact r'
