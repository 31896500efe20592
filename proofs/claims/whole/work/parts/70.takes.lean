/-! ===== wants are taken in the model ===== -/
theorem rs_flt (g : Nat → Int32) (y i : Nat) : (List.range (i + 1)).filter (fun i => decide (g i = on y)) = (List.range i).filter (fun i => decide (g i = on y)) ++ (if g i = on y then [i] else []) := by
  rw [List.range_succ, List.filter_append]
  congr 1
  by_cases e : g i = on y
  · simp [e]
  · simp [e]
/-- storeys as the model asks them -/
def SG (V : ai_V) (h : Hs) (g : Nat → Int32) : Prop := ∀ V1, gi V1 89 30 = gi V 89 30 → gi V1 89 31 = gi V 89 31 → MH V1 h → ∀ i, i < hm h → d_M_storeyOf (on i) V1 = some (g i)
theorem SG.of {V V' : ai_V} {h : Hs} {g : Nat → Int32} (s : SG V h g) (e1 : gi V' 89 30 = gi V 89 30) (e2 : gi V' 89 31 = gi V 89 31) : SG V' h g := fun V1 a b => s V1 (a.trans e1) (b.trans e2)
theorem takes_eq {V : ai_V} {h : Hs} {g : Nat → Int32} {w : Nat} (hO : HO h) (hM : MH V h) (hw : w < 2147483648) (lv : Int32) (hg : SG V h g) :
    ∃ V', d_M_takes lv (on w) V = some ((tk h (w % 12) (ordL g (hm h)) (lv, 0)).1, V') ∧ gi V' 89 29 = on (tk h (w % 12) (ordL g (hm h)) (lv, 0)).2 ∧ Fr ([(89, 29)], []) V V' := by
  have h6 := hO.1
  have hq : w % 12 < 12 := Nat.mod_lt _ (by decide)
  have hb : ∀ l : List Nat, (∀ j ∈ l, j < hm h) → (tk h (w % 12) l (lv, 0)).2 < 64 := fun l hl => (tk_bits h (w % 12) l lv (fun j hj => by have := hl j hj; omega)).1
  have mem : ∀ y i, i ≤ hm h → ∀ j ∈ (List.range y).flatMap (fun y => (List.range (hm h)).filter fun i => decide (g i = on y)) ++ (List.range i).filter (fun i => decide (g i = on y)), j < hm h := by
    intro y i hi j hj
    simp only [List.mem_append, List.mem_flatMap, List.mem_filter, List.mem_range] at hj
    rcases hj with ⟨_, _, hj, _⟩ | ⟨hj, _⟩ <;> omega
  rw [d_M_takes]
  have := loop_n (fun n (a : Int32) x V => d_M_takes_10 n (on w) a x V) (fun c : Int32 × ai_V => some c)
    (fun y a V1 => a = (tk h (w % 12) ((List.range y).flatMap fun y => (List.range (hm h)).filter fun i => decide (g i = on y)) (lv, 0)).1 ∧ gi V1 89 29 = on (tk h (w % 12) ((List.range y).flatMap fun y => (List.range (hm h)).filter fun i => decide (g i = on y)) (lv, 0)).2 ∧ Fr ([(89, 29)], []) V V1)
    (fun c => c.1 = (tk h (w % 12) (ordL g (hm h)) (lv, 0)).1 ∧ gi c.2 89 29 = on (tk h (w % 12) (ordL g (hm h)) (lv, 0)).2 ∧ Fr ([(89, 29)], []) V c.2) 6 ?_ ?_ 6 0 ai_N lv (si V 89 29 (0 : Int32)) (by omega) (N_gt (by omega)) ⟨rfl, by simp only [gi_si]; simp [tk]; rfl, Fr.si Fr.rf rfl⟩
  · obtain ⟨⟨c1, c2⟩, e, a1, a2, a3⟩ := this
    simp only at a1 a2 a3
    refine ⟨c2, ?_, a2, a3⟩
    rw [← a1]; exact e
  · rintro n a y V1 hy ⟨a1, a2, hF⟩
    show ∃ a' V', d_M_takes_10 (n + 1) (on w) a (on y) V1 = _ ∧ _
    rw [d_M_takes_10, if_neg (by rw [show (5 : Int32) = on 5 from rfl, on_lt (by omega) (by omega)]; omega)]
    have inner := loop_n (fun k (a : Int32) x V => d_M_takes_19 (d_M_takes_10 n) k (on w) a (on y) x V) (fun c : Int32 × ai_V => d_M_takes_10 n (on w) c.1 (on (y + 1)) c.2)
      (fun i a V1 => a = (tk h (w % 12) ((List.range y).flatMap (fun y => (List.range (hm h)).filter fun i => decide (g i = on y)) ++ (List.range i).filter (fun i => decide (g i = on y))) (lv, 0)).1 ∧ gi V1 89 29 = on (tk h (w % 12) ((List.range y).flatMap (fun y => (List.range (hm h)).filter fun i => decide (g i = on y)) ++ (List.range i).filter (fun i => decide (g i = on y))) (lv, 0)).2 ∧ Fr ([(89, 29)], []) V V1)
      (fun c => c.1 = (tk h (w % 12) ((List.range (y + 1)).flatMap fun y => (List.range (hm h)).filter fun i => decide (g i = on y)) (lv, 0)).1 ∧ gi c.2 89 29 = on (tk h (w % 12) ((List.range (y + 1)).flatMap fun y => (List.range (hm h)).filter fun i => decide (g i = on y)) (lv, 0)).2 ∧ Fr ([(89, 29)], []) V c.2) (hm h) ?_ ?_ (hm h) 0 ai_N a V1 (by omega) (N_gt (by omega)) ⟨by simpa using a1, by simpa using a2, hF⟩
    · obtain ⟨c, e, a1, a2, a3⟩ := inner
      exact ⟨c.1, c.2, e, a1, a2, a3⟩
    · rintro k a i V2 hi ⟨a1, a2, hF⟩
      have M2 := hM.fr hF rfl
      have hb2 := hb _ (mem y i (by omega))
      show ∃ a' V', d_M_takes_19 (d_M_takes_10 n) (k + 1) (on w) a (on y) (on i) V2 = _ ∧ _
      rw [d_M_takes_19, M2.1, if_neg (by rw [on_le (by omega) (by omega)]; omega), hg V2 (hF.gi 89 30 rfl) (hF.gi 89 31 rfl) M2 i hi, bd_some, rs_flt]
      by_cases e : g i = on y
      · rw [if_pos e, if_pos e, wantM_eq hO M2 hi hw, bd_some, ← List.append_assoc, tk_snoc, tkS, ← a1]
        by_cases e2 : a < wnt h i (w % 12)
        · rw [if_pos e2, if_pos e2, d_M_takes_78, on_s]
          refine ⟨_, _, rfl, rfl, ?_, Fr.si hF rfl⟩
          simp only [gi_si, and_self, if_true, a2]
          exact or_on _ hb2 i (by omega)
        · rw [if_neg e2, if_neg e2, d_M_takes_78, on_s]
          exact ⟨_, _, rfl, rfl, a2, hF⟩
      · rw [if_neg e, if_neg e, List.append_nil, d_M_takes_78, on_s]
        exact ⟨_, _, rfl, a1, a2, hF⟩
    · rintro k a V2 ⟨a1, a2, hF⟩
      have M2 := hM.fr hF rfl
      show ∃ c : Int32 × ai_V, d_M_takes_19 (d_M_takes_10 n) (k + 1) (on w) a (on y) (on (hm h)) V2 = _ ∧ _
      rw [d_M_takes_19, M2.1, if_pos (Int32.le_refl _), on_s]
      refine ⟨(a, V2), rfl, ?_, ?_, hF⟩
      · rw [List.range_succ, List.flatMap_append]; simpa using a1
      · rw [List.range_succ, List.flatMap_append]; simpa using a2
  · rintro n a V1 ⟨a1, a2, hF⟩
    show ∃ c : Int32 × ai_V, d_M_takes_10 (n + 1) (on w) a (on 6) V1 = _ ∧ _
    rw [d_M_takes_10, if_pos (by decide)]
    exact ⟨(a, V1), rfl, a1, a2, hF⟩
/-- storeys as they are -/
theorem storey_eq {V : ai_V} {h : Hs} (hO : HO h) (x1 : gi V 89 30 = -1) (x2 : gi V 89 31 = -1) : SG V h (hst h) := by
  intro V1 e1 e2 M1 i hi
  have h6 := hO.1
  rw [d_M_storeyOf, e1, e2, x1, x2, if_pos (on_ne_m1 (by omega)), if_pos (on_ne_m1 (by omega)), if_pos (by rw [on_in (by omega)]; omega), on_nn (by omega), M1.2.2.2.1]
/-- storeys of two changed -/
def swp (g : Nat → Int32) (a c : Nat) (i : Nat) : Int32 := if i = a then g c else if i = c then g a else g i
theorem storey_sw {V : ai_V} {h : Hs} (hO : HO h) {a c : Nat} (ha : a < hm h) (hc : c < hm h) (x1 : gi V 89 30 = on a) (x2 : gi V 89 31 = on c) : SG V h (swp (hst h) a c) := by
  intro V1 e1 e2 M1 i hi
  have h6 := hO.1
  rw [d_M_storeyOf, e1, e2, x1, x2, swp]
  simp only [on_inj (show i < 2147483648 by omega) (show a < 2147483648 by omega), on_inj (show i < 2147483648 by omega) (show c < 2147483648 by omega)]
  by_cases e : i = a
  · rw [if_neg (fun hn => hn e), if_pos e, if_pos (by rw [on_in (by omega)]; omega), on_nn (by omega), M1.2.2.2.1]
  · rw [if_pos e, if_neg e]
    by_cases e2 : i = c
    · rw [if_neg (fun hn => hn e2), if_pos e2, if_pos (by rw [on_in (by omega)]; omega), on_nn (by omega), M1.2.2.2.1]
    · rw [if_pos e2, if_neg e2, if_pos (by rw [on_in (by omega)]; omega), on_nn (by omega), M1.2.2.2.1]
