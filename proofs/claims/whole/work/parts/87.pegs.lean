/-! ===== pegs ===== -/
def Wg (h : Hs) (b k : Nat) : Int32 := fo (fun i a => a + (if b.testBit i = true then hwt h i else 0)) k 0 0
theorem Wg_s (h : Hs) (b k : Nat) : Wg h b (k + 1) = Wg h b k + (if b.testBit k = true then hwt h k else 0) := by unfold Wg; rw [fo_s, Nat.zero_add]
def Sl (h : Hs) (b k : Nat) : Int32 := fo (fun i a => if b.testBit i = true then (if a = 0 then hpc h i else ai_min a (hpc h i)) else a) k 0 0
theorem Sl_s (h : Hs) (b k : Nat) : Sl h b (k + 1) = if b.testBit k = true then (if Sl h b k = 0 then hpc h k else ai_min (Sl h b k) (hpc h k)) else Sl h b k := by unfold Sl; rw [fo_s, Nat.zero_add]
def Mn (h : Hs) (b k : Nat) : Int32 := fo (fun i a => if b.testBit i = true then ai_min a (hpc h i) else a) k 0 9
theorem Mn_s (h : Hs) (b k : Nat) : Mn h b (k + 1) = if b.testBit k = true then ai_min (Mn h b k) (hpc h k) else Mn h b k := by unfold Mn; rw [fo_s, Nat.zero_add]
theorem Sl_Mn {h : Hs} (hO : HO h) (b : Nat) : ∀ k, k ≤ hm h → ((∀ i, i < k → ¬ b.testBit i = true) ∧ Sl h b k = 0 ∧ Mn h b k = 9) ∨ ((∃ i, i < k ∧ b.testBit i = true) ∧ Sl h b k = Mn h b k ∧ 1 ≤ (Sl h b k).toInt ∧ (Sl h b k).toInt ≤ 9) := by
  intro k
  induction k with
  | zero => intro _; exact Or.inl ⟨fun i hi => absurd hi (by omega), rfl, rfl⟩
  | succ k ih =>
    intro hk
    obtain ⟨-, ⟨p1, p2⟩, -⟩ := hO.2.2 k (by omega)
    rw [Sl_s, Mn_s]
    by_cases e : b.testBit k = true
    · rw [if_pos e, if_pos e]
      right
      refine ⟨⟨k, by omega, e⟩, ?_⟩
      rcases ih (by omega) with ⟨a1, a2, a3⟩ | ⟨a1, a2, a3, a4⟩
      · rw [a2, a3, if_pos rfl]
        have : ai_min 9 (hpc h k) = hpc h k := by
          rw [ti_eq, ai_min_ti]
          have e9 : (9 : Int32).toInt = 9 := rfl
          omega
        rw [this]
        exact ⟨rfl, p1, p2⟩
      · rw [if_neg (fun e0 => by rw [e0] at a3; exact absurd a3 (by decide)), a2]
        rw [a2] at a3 a4
        refine ⟨rfl, ?_, ?_⟩
        · rw [ai_min_ti]; omega
        · rw [ai_min_ti]; omega
    · rw [if_neg e, if_neg e]
      rcases ih (by omega) with ⟨a1, a2, a3⟩ | ⟨⟨i, hi, hb⟩, a2⟩
      · refine Or.inl ⟨fun i hi => ?_, a2, a3⟩
        by_cases ei : i = k
        · rw [ei]; exact e
        · exact a1 i (by omega)
      · exact Or.inr ⟨⟨i, by omega, hb⟩, a2⟩
theorem Sl_tn {h : Hs} (hO : HO h) {b : Nat} (hb : b < 2 ^ hm h) : Sl h b (hm h) = tn h b := by
  have h6 := hO.1
  have h64 := Nat.lt_of_lt_of_le hb (two_le h6)
  unfold tn
  rcases Sl_Mn hO b (hm h) (Nat.le_refl _) with ⟨a1, a2, -⟩ | ⟨⟨i, hi, hbit⟩, a2, -⟩
  · by_cases e : b = 0
    · rw [if_pos e]; exact a2
    · obtain ⟨k, hk, hbk⟩ := ex_bit b h64 e
      exact absurd hbk (a1 k (tb_m hb hbk))
  · rw [if_neg (fun e => by rw [e] at hbit; simp at hbit)]; exact a2
/-- a set that agrees with a reading -/
def ag (h : Hs) (t w : Int32) (b : Nat) : Prop := tn h b = t ∧ (w = -1 ∨ Wg h b (hm h) = w)
def agD (h : Hs) (t w : Int32) (b : Nat) : Bool := decide (popc b ≤ 2) && (decide (tn h b = t) && (decide (w = -1) || decide (Wg h b (hm h) = w)))
theorem agrees_eq {V : ai_V} {h : Hs} (hO : HO h) (hC : CH V h) {b i : Nat} (hb : b < 2 ^ hm h) (hp : popc b ≤ 2) (hi : i < 12) : d_Pegs_agrees (on b) (on i) V = some (if agD h (ga V 80 i) (ga V 81 i) b = true then 1 else 0) := by
  have h6 := hO.1
  have h64 := Nat.lt_of_lt_of_le hb (two_le h6)
  rw [d_Pegs_agrees]
  have := loop_p (fun n (a : Int32 × Int32) y => d_Pegs_agrees_8 n (on b) (on i) a.1 a.2 y V) (fun c : Int32 => some c) (fun k a => a = (Sl h b k, Wg h b k)) (fun c => c = (if agD h (ga V 80 i) (ga V 81 i) b = true then 1 else 0)) (hm h) ?_ ?_ (hm h) 0 ai_N (0, 0) (by omega) (N_gt (by omega)) rfl
  · obtain ⟨c, e, rfl⟩ := this
    exact e
  · rintro n a k hk rfl
    left
    show ∃ a' : Int32 × Int32, d_Pegs_agrees_8 (n + 1) (on b) (on i) (Sl h b k) (Wg h b k) (on k) V = _ ∧ _
    have hkn : ai_in (on k) 6 := by rw [on_in (by omega)]; omega
    rw [d_Pegs_agrees_8, hC.1, if_neg (by rw [on_le (by omega) (by omega)]; omega), Sl_s, Wg_s]
    by_cases e : b.testBit k = true
    · rw [if_neg (fun hn => hn ((bt_on b h64 k (by omega)).mpr e)), if_pos e, if_pos e]
      by_cases e2 : Sl h b k = 0
      · rw [if_neg (fun hn => hn e2), if_pos hkn, d_Pegs_agrees_61, if_pos hkn, on_nn (by omega), hC.2.2.2.2.1, hC.2.2.2.2.2.1, d_Pegs_agrees_77, on_s, if_pos e2]
        exact ⟨(_, _), rfl, rfl⟩
      · rw [if_pos e2, if_pos hkn, d_Pegs_agrees_61, if_pos hkn, on_nn (by omega), hC.2.2.2.2.1, hC.2.2.2.2.2.1, d_Pegs_agrees_77, on_s, if_neg e2]
        exact ⟨(_, _), rfl, rfl⟩
    · rw [if_pos (fun hn => e ((bt_on b h64 k (by omega)).mp hn)), d_Pegs_agrees_77, on_s, if_neg e, if_neg e, Int32.add_zero]
      exact ⟨(_, _), rfl, rfl⟩
  · rintro n a rfl
    show ∃ c : Int32, d_Pegs_agrees_8 (n + 1) (on b) (on i) (Sl h b (hm h)) (Wg h b (hm h)) (on (hm h)) V = _ ∧ _
    have hin : ai_in (on i) 12 := by rw [on_in (by omega)]; omega
    have h80 : ga V 80 (on i).toNatClampNeg = ga V 80 i := by rw [on_nn (by omega)]
    have h81 : ga V 81 (on i).toNatClampNeg = ga V 81 i := by rw [on_nn (by omega)]
    rw [d_Pegs_agrees_8, hC.1, if_pos (Int32.le_refl _), if_pos hin, h80, h81, Sl_tn hO hb]
    unfold agD
    simp only [decide_eq_true hp, Bool.true_and, Bool.and_eq_true, Bool.or_eq_true, decide_eq_true_eq]
    by_cases e1 : tn h b = ga V 80 i
    · rw [if_neg (fun hn => hn e1), if_pos hin]
      by_cases e2 : ga V 81 i = -1
      · rw [if_pos e2, if_pos ⟨e1, Or.inl e2⟩]; exact ⟨_, rfl, rfl⟩
      · rw [if_neg e2, if_pos hin]
        by_cases e3 : ga V 81 i = Wg h b (hm h)
        · rw [if_neg (fun hn => hn e3), if_pos ⟨e1, Or.inr e3.symm⟩]; exact ⟨_, rfl, rfl⟩
        · rw [if_pos e3, if_neg (fun hc => by rcases hc.2 with q | q; exact e2 q; exact e3 q.symm)]; exact ⟨_, rfl, rfl⟩
    · rw [if_pos e1, if_neg (fun hc => e1 hc.1)]; exact ⟨_, rfl, rfl⟩
theorem canBe_eq {V : ai_V} {h : Hs} (hO : HO h) (hM : MH V h) {b i : Nat} (hb : b < 2 ^ hm h) (hi : i < 12) : d_M_canBe (on i) (on b) V = some (if agD h (ga V 114 (2 * i)) (ga V 114 (2 * i + 1)) b = true then 1 else 0) := by
  have h6 := hO.1
  have h64 := Nat.lt_of_lt_of_le hb (two_le h6)
  have hpl := popc_le b h64
  rw [d_M_canBe, bitCount_on b h64, bd_some]
  by_cases hp : popc b ≤ 2
  · rw [if_neg (by rw [show (2 : Int32) = on 2 from rfl, on_lt (by omega) (by omega)]; omega), turnsM_eq hO hM h64, bd_some, show (2 : Int32) = on 2 from rfl, on_mul, if_pos (by rw [on_in (by omega)]; omega), on_nn (by omega)]
    by_cases e1 : tn h b = ga V 114 (2 * i)
    · rw [if_pos e1]
      have := loop_p (fun n (a : Int32) y => d_M_canBe_31 n (on i) (on b) a y V) (fun c : Int32 => some c) (fun k a => a = Wg h b k) (fun c => c = (if agD h (ga V 114 (2 * i)) (ga V 114 (2 * i + 1)) b = true then 1 else 0)) (hm h) ?_ ?_ (hm h) 0 ai_N 0 (by omega) (N_gt (by omega)) rfl
      · obtain ⟨c, e, rfl⟩ := this
        exact e
      · rintro n a k hk rfl
        left
        show ∃ a' : Int32, d_M_canBe_31 (n + 1) (on i) (on b) (Wg h b k) (on k) V = _ ∧ _
        rw [d_M_canBe_31, hM.1, if_neg (by rw [on_le (by omega) (by omega)]; omega), mhas_on h64 (by omega), bd_some, Wg_s]
        by_cases e : b.testBit k = true
        · rw [if_neg (by rw [tf_pos e]; decide), if_pos (by rw [on_in (by omega)]; omega), on_nn (by omega), hM.2.2.2.2.2.1, d_M_canBe_61, on_s, if_pos e]
          exact ⟨_, rfl, rfl⟩
        · rw [if_pos (tf_neg e), d_M_canBe_61, on_s, if_neg e]
          exact ⟨_, rfl, rfl⟩
      · rintro n a rfl
        show ∃ c : Int32, d_M_canBe_31 (n + 1) (on i) (on b) (Wg h b (hm h)) (on (hm h)) V = _ ∧ _
        have hin : ai_in (on (2 * i + 1)) 24 := by rw [on_in (by omega)]; omega
        have h114 : ga V 114 (on (2 * i + 1)).toNatClampNeg = ga V 114 (2 * i + 1) := by rw [on_nn (by omega)]
        rw [d_M_canBe_31, hM.1, if_pos (Int32.le_refl _), show (2 : Int32) = on 2 from rfl, on_mul, on_s, if_pos hin, h114]
        unfold agD
        simp only [decide_eq_true hp, Bool.true_and, Bool.and_eq_true, Bool.or_eq_true, decide_eq_true_eq]
        by_cases e2 : ga V 114 (2 * i + 1) = -1
        · rw [if_pos e2, if_pos ⟨e1, Or.inl e2⟩]; exact ⟨_, rfl, rfl⟩
        · rw [if_neg e2, if_pos hin]
          by_cases e3 : Wg h b (hm h) = ga V 114 (2 * i + 1)
          · rw [if_neg (fun hn => hn e3), if_pos ⟨e1, Or.inr e3⟩]; exact ⟨_, rfl, rfl⟩
          · rw [if_pos e3, if_neg (fun hc => by rcases hc.2 with q | q; exact e2 q; exact e3 q)]; exact ⟨_, rfl, rfl⟩
    · rw [if_neg e1, if_neg (by unfold agD; simp [e1])]
  · rw [if_pos (by rw [show (2 : Int32) = on 2 from rfl, on_lt (by omega) (by omega)]; omega), if_neg (by unfold agD; simp [hp])]
/-- the sets that agree, below k -/
def fs (h : Hs) (t w : Int32) (k : Nat) : List Nat := (List.range k).filter (agD h t w)
theorem fs_s (h : Hs) (t w : Int32) (k : Nat) : fs h t w (k + 1) = fs h t w k ++ (if agD h t w k = true then [k] else []) := by
  unfold fs
  rw [List.range_succ, List.filter_append]
  congr 1
  by_cases e : agD h t w k = true
  · simp [e]
  · simp [e]
theorem cnt22 : ∀ k, k < 65 → ((List.range k).filter (fun b => decide (popc b ≤ 2))).length ≤ 22 ∧ (k < 64 → popc k ≤ 2 → ((List.range k).filter (fun b => decide (popc b ≤ 2))).length < 22) := by decide +kernel
theorem fs_len (h : Hs) (t w : Int32) : ∀ k, (fs h t w k).length ≤ ((List.range k).filter (fun b => decide (popc b ≤ 2))).length := by
  intro k
  induction k with
  | zero => exact Nat.le_refl _
  | succ k ih =>
    rw [fs_s, List.range_succ, List.filter_append, List.length_append, List.length_append]
    by_cases e : agD h t w k = true
    · have hp : popc k ≤ 2 := by
        unfold agD at e
        rw [Bool.and_eq_true] at e
        exact of_decide_eq_true e.1
      rw [if_pos e]
      simp [hp]; omega
    · rw [if_neg e]; simp only [List.length_nil]; omega
theorem fs_mem {h : Hs} {t w : Int32} {k b : Nat} (hb : b ∈ fs h t w k) : b < k := by
  unfold fs at hb
  rw [List.mem_filter, List.mem_range] at hb
  exact hb.1
theorem findSets_eq {V : ai_V} {h : Hs} (hO : HO h) (hC : CH V h) {i : Nat} (hi : i < 12) : ∃ V', d_Pegs_findSets (on i) V = some (on (fs h (ga V 80 i) (ga V 81 i) (2 ^ hm h)).length, V') ∧ gi V' 78 3 = on (fs h (ga V 80 i) (ga V 81 i) (2 ^ hm h)).length ∧ CO V' 79 (fs h (ga V 80 i) (ga V 81 i) (2 ^ hm h)) ∧ Fr ([(78, 3)], [79]) V V' := by
  have h6 := hO.1
  have h64 := two_le h6
  rw [d_Pegs_findSets]
  have := loop_n (fun n (_ : Unit) y V => d_Pegs_findSets_7 n (on i) y V) (fun c : Int32 × ai_V => some c) (fun k _ V' => gi V' 78 3 = on (fs h (ga V 80 i) (ga V 81 i) k).length ∧ CO V' 79 (fs h (ga V 80 i) (ga V 81 i) k) ∧ Fr ([(78, 3)], [79]) V V') (fun c => c.1 = on (fs h (ga V 80 i) (ga V 81 i) (2 ^ hm h)).length ∧ gi c.2 78 3 = on (fs h (ga V 80 i) (ga V 81 i) (2 ^ hm h)).length ∧ CO c.2 79 (fs h (ga V 80 i) (ga V 81 i) (2 ^ hm h)) ∧ Fr ([(78, 3)], [79]) V c.2) (2 ^ hm h) ?_ ?_ (2 ^ hm h) 0 ai_N () (si V 78 3 0) (by omega) (N_gt (by omega)) ⟨by rw [gi_si, if_pos ⟨rfl, rfl⟩]; rfl, fun j hj => absurd hj (by simp [fs]), Fr.si Fr.rf rfl⟩
  · obtain ⟨⟨c1, c2⟩, e, q1, q⟩ := this
    simp only at q1
    subst q1
    exact ⟨c2, e, q⟩
  · rintro n _ b V1 hb ⟨a1, a2, hF⟩
    have C1 := hC.fr hF rfl
    have hpl := popc_le b (by omega)
    show ∃ (a' : Unit) (V' : ai_V), d_Pegs_findSets_7 (n + 1) (on i) (on b) V1 = _ ∧ _
    rw [d_Pegs_findSets_7, C1.1, pw_eq _ (by omega), if_neg (by rw [on_le (by omega) (by omega)]; omega), bitCount_on b (by omega), bd_some, fs_s]
    by_cases hp : popc b ≤ 2
    · have hl := fs_len h (ga V 80 i) (ga V 81 i) b
      have h22 := (cnt22 b (by omega)).2 (by omega) hp
      rw [if_neg (by rw [show (2 : Int32) = on 2 from rfl, on_lt (by omega) (by omega)]; omega), a1, if_neg (by rw [show (22 : Int32) = on 22 from rfl, on_le (by omega) (by omega)]; omega), agrees_eq hO C1 hb hp hi, bd_some, hF.ga 80 rfl, hF.ga 81 rfl]
      by_cases e : agD h (ga V 80 i) (ga V 81 i) b = true
      · rw [if_pos e, if_pos e, if_neg (by decide), if_pos (by rw [on_in (by omega)]; omega), on_nn (by omega), gi_sa, a1, d_Pegs_findSets_66, on_s, on_s]
        refine ⟨(), _, rfl, ?_, ?_, Fr.si (Fr.sa hF rfl) rfl⟩
        · rw [gi_si, if_pos ⟨rfl, rfl⟩]; simp
        · intro j hj
          rw [List.length_append, List.length_singleton] at hj
          rw [ga_si, ga_sa]
          by_cases e2 : j = (fs h (ga V 80 i) (ga V 81 i) b).length
          · rw [if_pos ⟨rfl, e2⟩, e2]; simp [List.getD]
          · rw [if_neg (fun hc => e2 hc.2), a2 j (by omega)]
            congr 1
            simp [List.getD, List.getElem?_append_left (show j < (fs h (ga V 80 i) (ga V 81 i) b).length by omega)]
      · rw [if_neg e, if_neg e, if_pos rfl, d_Pegs_findSets_66, on_s, List.append_nil]
        exact ⟨(), V1, rfl, a1, a2, hF⟩
    · have e : ¬ agD h (ga V 80 i) (ga V 81 i) b = true := by unfold agD; simp [hp]
      rw [if_pos (by rw [show (2 : Int32) = on 2 from rfl, on_lt (by omega) (by omega)]; omega), d_Pegs_findSets_66, on_s, if_neg e, List.append_nil]
      exact ⟨(), V1, rfl, a1, a2, hF⟩
  · rintro n _ V1 ⟨a1, a2, hF⟩
    have C1 := hC.fr hF rfl
    show ∃ c : Int32 × ai_V, d_Pegs_findSets_7 (n + 1) (on i) (on (2 ^ hm h)) V1 = _ ∧ _
    rw [d_Pegs_findSets_7, C1.1, pw_eq _ (by omega), if_pos (Int32.le_refl _), a1]
    exact ⟨_, rfl, rfl, a1, a2, hF⟩
/-! ways -/
def wyR (l : List Nat) : List Int64 := (l.take 10).map (fun b => (on b).toInt64)
theorem wyR_len (l : List Nat) : (wyR l).length ≤ 10 := by simp [wyR]; omega
theorem wyR_s (l : List Nat) (b : Nat) : wyR (l ++ [b]) = if l.length < 10 then wyR l ++ [(on b).toInt64] else wyR l := by
  unfold wyR
  rw [List.take_append]
  by_cases e : l.length < 10
  · obtain ⟨k, hk⟩ : ∃ k, 10 - l.length = k + 1 := ⟨10 - l.length - 1, by omega⟩
    rw [if_pos e, hk]; simp
  · rw [if_neg e, show 10 - l.length = 0 by omega]; simp
theorem IG.p {V : ai_V} (hG : IG V) : ∃ p, p ≤ 12 ∧ gi V 78 1 = on p ∧ gi V 89 55 = on p ∧ ∀ i, i < p → ga V 80 i = ga V 114 (2 * i) ∧ ga V 81 i = ga V 114 (2 * i + 1) := hG
theorem Inv.g {N : Nat} {V : ai_V} (hI : Inv N V) : IG V := by
  obtain ⟨h, f, z, rm, -, -, -, -, -, -, -, -, hG, -⟩ := hI
  exact hG
theorem st_ways {N : Nat} {V : ai_V} (hI : Inv N V) (hN : N < 512) (x : Int32) : Step N V (d_X_ways x) (d_M_ways x) := by
  obtain ⟨h, f, z, rm, nw, kc, km, hS, hn, hb⟩ := hI.k
  obtain ⟨p, p12, g1, g2, g3⟩ := hI.g.p
  have hO := kc.1
  have h6 := hO.1
  have h64 := two_le h6
  by_cases hx : 0 ≤ x ∧ x < on p
  · have hxi : ∃ i, i < p ∧ x = on i := by
      refine ⟨x.toNatClampNeg, ?_, (on_of hx.1).symm⟩
      have := hx.2
      rw [← on_of hx.1, on_lt x.toNatClampNeg_lt (by omega)] at this
      exact this
    obtain ⟨i, hi, rfl⟩ := hxi
    have X : ∃ V', d_X_ways (on i) V = some (on (fs h (ga V 80 i) (ga V 81 i) (2 ^ hm h)).length, V') ∧ cRow V' (wyR (fs h (ga V 80 i) (ga V 81 i) (2 ^ hm h))) := by
      obtain ⟨V1, e1, a1, a2, F1⟩ := findSets_eq hO kc.2.1 (show i < 12 by omega)
      obtain ⟨q1, q2⟩ := row_clear V1
      rw [d_X_ways, if_neg (by rw [on_n0 (by omega)]; exact id), g1, if_pos (by rw [on_lt (by omega) (by omega)]; exact hi), e1, bd_some, q1, bd_some]
      have hl := fs_len h (ga V 80 i) (ga V 81 i) (2 ^ hm h)
      have h22 := (cnt22 (2 ^ hm h) (by omega)).1
      generalize fs h (ga V 80 i) (ga V 81 i) (2 ^ hm h) = l at *
      have := loop_e (fun n (_ : Unit) y V => d_X_ways_35 n (on l.length) y V) (fun c : Int32 × ai_V => some c) (fun k _ V' => k ≤ 10 ∧ cRow V' (wyR (l.take k)) ∧ Fr ([(22, 1)], [23]) V1 V') (fun c => c.1 = on l.length ∧ cRow c.2 (wyR l)) l.length ?_ ?_ l.length 0 ai_N () _ (by omega) (N_gt (by omega)) ⟨by omega, q2, Fr.si Fr.rf rfl⟩
      · obtain ⟨⟨c1, c2⟩, e, q1, q2⟩ := this
        simp only at q1 q2
        subst q1
        exact ⟨c2, e, q2⟩
      · rintro n _ k V2 hk ⟨k10, hr, hF⟩
        show (∃ (a' : Unit) (V' : ai_V), d_X_ways_35 (n + 1) (on l.length) (on k) V2 = _ ∧ _) ∨ (∃ c : Int32 × ai_V, d_X_ways_35 (n + 1) (on l.length) (on k) V2 = _ ∧ _)
        rw [d_X_ways_35, if_neg (by rw [on_le (by omega) (by omega)]; omega)]
        by_cases e : 10 ≤ k
        · right
          rw [if_pos (by rw [show (10 : Int32) = on 10 from rfl, on_le (by omega) (by omega)]; exact e)]
          refine ⟨_, rfl, rfl, ?_⟩
          have : wyR (l.take k) = wyR l := by unfold wyR; rw [List.take_take, show min 10 k = 10 by omega]
          rw [this] at hr; exact hr
        · left
          have ht : l.take (k + 1) = l.take k ++ [l.getD k 0] := by rw [List.take_add_one]; simp [hk]
          have hlt : (l.take k).length = k := by rw [List.length_take]; omega
          obtain ⟨V3, e3, r3, F3⟩ := row_add hr (by have := wyR_len (l.take k); omega) (on (l.getD k 0)).toInt64
          rw [if_neg (by rw [show (10 : Int32) = on 10 from rfl, on_le (by omega) (by omega)]; exact e), if_pos (by rw [on_in (by omega)]; omega), on_nn (by omega), hF.ga 79 rfl, a2 k hk, e3, bd_some, on_s]
          refine ⟨(), V3, rfl, by omega, ?_, Fr.tr hF F3 rfl⟩
          rw [ht, wyR_s, if_pos (by omega)]; exact r3
      · rintro n _ V2 ⟨k10, hr, hF⟩
        show ∃ c : Int32 × ai_V, d_X_ways_35 (n + 1) (on l.length) (on l.length) V2 = _ ∧ _
        rw [d_X_ways_35, if_pos (Int32.le_refl _)]
        rw [List.take_length] at hr
        exact ⟨_, rfl, rfl, hr⟩
    obtain ⟨V1, e1, c1⟩ := X
    have F1 : Fr w_X_ways V V1 := fr_X_ways _ _ _ e1
    have M : ∃ V', d_M_ways (on i) V1 = some (on (fs h (ga V 80 i) (ga V 81 i) (2 ^ hm h)).length, V') ∧ mRow V' (wyR (fs h (ga V 80 i) (ga V 81 i) (2 ^ hm h))) := by
      rw [d_M_ways, in_eq, bd_some, m14 _ _ 89 55 (by decide), F1.gi 89 55 rfl, g2, if_pos (by
        rw [tf_pos ⟨on_ge0 (by omega), (le_m1 (by omega) _).mpr (by rw [on_lt (by omega) (by omega)]; exact hi)⟩]; decide)]
      have := loop_n (fun n (a : Nat) y V => d_M_ways_30 n (on i) (on a) y V) (fun c : Int32 × ai_V => some c) (fun k a V' => a = (fs h (ga V 80 i) (ga V 81 i) k).length ∧ mRow V' (wyR (fs h (ga V 80 i) (ga V 81 i) k)) ∧ Fr ([(89, 14), (89, 13)], [97]) V1 V') (fun c => c.1 = on (fs h (ga V 80 i) (ga V 81 i) (2 ^ hm h)).length ∧ mRow c.2 (wyR (fs h (ga V 80 i) (ga V 81 i) (2 ^ hm h)))) (2 ^ hm h) ?_ ?_ (2 ^ hm h) 0 ai_N 0 (si (si V1 89 14 0) 89 13 0) (by omega) (N_gt (by omega)) ⟨rfl, m_row0 _, Fr.si (Fr.si Fr.rf rfl) rfl⟩
      · obtain ⟨⟨c1, c2⟩, e, q1, q2⟩ := this
        simp only at q1 q2
        subst q1
        exact ⟨c2, e, q2⟩
      · rintro n a b V2 hb ⟨rfl, hr, hF⟩
        have M2 := (km.2.1.fr F1 rfl).fr hF rfl
        have hl := fs_len h (ga V 80 i) (ga V 81 i) b
        have h22 := (cnt22 b (by omega)).1
        show ∃ (a' : Nat) (V' : ai_V), d_M_ways_30 (n + 1) (on i) (on (fs h (ga V 80 i) (ga V 81 i) b).length) (on b) V2 = _ ∧ _
        rw [d_M_ways_30, M2.1, pw_eq _ (by omega), if_neg (by rw [on_le (by omega) (by omega)]; omega), canBe_eq hO M2 hb (by omega), bd_some, hF.ga 114 rfl, F1.ga 114 rfl, ← (g3 i hi).1, ← (g3 i hi).2, fs_s]
        by_cases e : agD h (ga V 80 i) (ga V 81 i) b = true
        · rw [if_pos e, if_pos (by decide), if_pos e, wyR_s]
          by_cases e2 : (fs h (ga V 80 i) (ga V 81 i) b).length < 10
          · obtain ⟨V3, e3, r3, F3⟩ := m_tell hr (by have := wyR_len (fs h (ga V 80 i) (ga V 81 i) b); omega) (on b).toInt64
            rw [if_neg (by rw [show (10 : Int32) = on 10 from rfl, on_le (by omega) (by omega)]; omega), e3, bd_some, d_M_ways_64, d_M_ways_67, on_s, on_s, if_pos e2]
            exact ⟨_, V3, rfl, by simp, r3, Fr.tr hF F3 rfl⟩
          · rw [if_pos (by rw [show (10 : Int32) = on 10 from rfl, on_le (by omega) (by omega)]; omega), d_M_ways_64, d_M_ways_67, on_s, on_s, if_neg e2]
            exact ⟨_, V2, rfl, by simp, hr, hF⟩
        · rw [if_neg e, if_neg (fun hn => hn rfl), d_M_ways_67, on_s, if_neg e, List.append_nil]
          exact ⟨_, V2, rfl, rfl, hr, hF⟩
      · rintro n a V2 ⟨rfl, hr, hF⟩
        have M2 := (km.2.1.fr F1 rfl).fr hF rfl
        show ∃ c : Int32 × ai_V, d_M_ways_30 (n + 1) (on i) (on (fs h (ga V 80 i) (ga V 81 i) (2 ^ hm h)).length) (on (2 ^ hm h)) V2 = _ ∧ _
        rw [d_M_ways_30, M2.1, pw_eq _ (by omega), if_pos (Int32.le_refl _)]
        exact ⟨_, rfl, rfl, hr⟩
    obtain ⟨V2, e2, c2⟩ := M
    have F2 : Fr w_M_ways V1 V2 := fr_M_ways _ _ _ e2
    exact ⟨_, V1, V2, e1, e2, hI.qq F1 F2 rfl rfl rfl rfl (o := some _) (fun r hr => by obtain rfl := Option.some.inj hr; have := wyR_len (fs h (ga V 80 i) (ga V 81 i) (2 ^ hm h)); omega) c1 c2 (hI.x.fr2 F1 F2 rfl rfl)⟩
  · refine ⟨-1, V, si V 89 14 0, ?_, ?_, hI.no 0⟩
    · rw [d_X_ways]
      by_cases e : x < 0
      · rw [if_pos e]
      · rw [if_neg e, g1, if_neg (fun e2 => hx ⟨nlt.mp e, e2⟩)]
    · rw [d_M_ways, in_eq, bd_some, m14 _ _ 89 55 (by decide), g2, if_neg (fun hn => hn (tf_neg (fun hc => hx ⟨hc.1, (le_m1 (by omega) _).mp hc.2⟩)))]
