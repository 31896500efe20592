theorem fill_71 (V : ai_V) : ∃ V', d_Arr_fill (-1) V = some V' ∧ (∀ k, k < 6 → ga V' 71 k = -1) ∧ Fr ([], [71]) V V' := by
  rw [d_Arr_fill]
  refine loop_n (fun n (_ : Unit) x V => d_Arr_fill_5 n (-1) x (Int32.ofNat 6) V) (fun c : ai_V => some c) (fun i _ V1 => (∀ k, k < i → ga V1 71 k = -1) ∧ Fr ([], [71]) V V1) (fun V' => (∀ k, k < 6 → ga V' 71 k = -1) ∧ Fr ([], [71]) V V') 6 ?_ ?_ 6 0 ai_N () V (by omega) (N_gt (by omega)) ⟨fun k hk => absurd hk (by omega), Fr.rf⟩
  · rintro n _ i V1 hi ⟨a1, hF⟩
    show ∃ a' V', d_Arr_fill_5 (n + 1) (-1) (on i) (on 6) V1 = _ ∧ _
    rw [d_Arr_fill_5, if_neg (by rw [on_le (by omega) (by omega)]; omega), if_pos (by rw [on_in (by omega)]; omega), on_s, on_nn (by omega)]
    refine ⟨(), _, rfl, fun k hk => ?_, Fr.sa hF rfl⟩
    rw [ga_sa]
    by_cases e : k = i
    · rw [if_pos ⟨rfl, e⟩]
    · rw [if_neg (fun hc => e hc.2)]; exact a1 k (by omega)
  · rintro n _ V1 ⟨a1, hF⟩
    show ∃ c : ai_V, d_Arr_fill_5 (n + 1) (-1) (on 6) (on 6) V1 = _ ∧ _
    rw [d_Arr_fill_5, if_pos (by decide)]
    exact ⟨V1, rfl, a1, hF⟩
theorem fill_70 (V : ai_V) : ∃ V', d_Arr_fill_70 (-1) V = some V' ∧ (∀ k, k < 6 → ga V' 70 k = -1) ∧ Fr ([], [70]) V V' := by
  rw [d_Arr_fill_70]
  refine loop_n (fun n (_ : Unit) x V => d_Arr_fill_70_5 n (-1) x (Int32.ofNat 6) V) (fun c : ai_V => some c) (fun i _ V1 => (∀ k, k < i → ga V1 70 k = -1) ∧ Fr ([], [70]) V V1) (fun V' => (∀ k, k < 6 → ga V' 70 k = -1) ∧ Fr ([], [70]) V V') 6 ?_ ?_ 6 0 ai_N () V (by omega) (N_gt (by omega)) ⟨fun k hk => absurd hk (by omega), Fr.rf⟩
  · rintro n _ i V1 hi ⟨a1, hF⟩
    show ∃ a' V', d_Arr_fill_70_5 (n + 1) (-1) (on i) (on 6) V1 = _ ∧ _
    rw [d_Arr_fill_70_5, if_neg (by rw [on_le (by omega) (by omega)]; omega), if_pos (by rw [on_in (by omega)]; omega), on_s, on_nn (by omega)]
    refine ⟨(), _, rfl, fun k hk => ?_, Fr.sa hF rfl⟩
    rw [ga_sa]
    by_cases e : k = i
    · rw [if_pos ⟨rfl, e⟩]
    · rw [if_neg (fun hc => e hc.2)]; exact a1 k (by omega)
  · rintro n _ V1 ⟨a1, hF⟩
    show ∃ c : ai_V, d_Arr_fill_70_5 (n + 1) (-1) (on 6) (on 6) V1 = _ ∧ _
    rw [d_Arr_fill_70_5, if_pos (by decide)]
    exact ⟨V1, rfl, a1, hF⟩
def prR (h : Hs) (s : Ps) (i : Nat) : List Int64 := (List.range i).map (fun k => (s.2.2 k).toInt64)
theorem prR_s (h : Hs) (s : Ps) (i : Nat) : prR h s (i + 1) = prR h s i ++ [(s.2.2 i).toInt64] := by
  unfold prR; rw [List.range_succ, List.map_append]; rfl
theorem prR_len (h : Hs) (s : Ps) (i : Nat) : (prR h s i).length = i := by simp [prR]
def p0 : Ps := (fun _ => -1, -1, fun _ => -1)
theorem X_pairs {V : ai_V} {h : Hs} {f : Rf} {z : Ss} {b : Nat} (K : KC V h f) (hz : cS z V 16) (hb : b < 2 ^ hm h) :
    ∃ V', d_X_pairs (on b) V = some ((PG h f z (hm h) 0 b (popc b % 2) 0 p0).2.1, V') ∧ cRow V' (prR h (PG h f z (hm h) 0 b (popc b % 2) 0 p0) (hm h)) := by
  have h6 := K.1.1
  have h64 := Nat.lt_of_lt_of_le hb (two_le h6)
  have hbb : 0 ≤ on b ∧ on b < on (2 ^ hm h) := ⟨on_ge0 (by omega), by rw [on_lt (by omega) (by have := two_le h6; omega)]; exact hb⟩
  obtain ⟨V1, e1, a1, F1⟩ := fill_71 (si V 69 2 (-1))
  obtain ⟨V2, e2, a2, F2⟩ := fill_70 V1
  have F2' : Fr wPC V V2 := Fr.tr (Fr.tr (Fr.si Fr.rf rfl) F1 rfl) F2 rfl
  have r2 : rC h p0 V2 := ⟨fun k hk => by rw [F2.ga 71 rfl]; exact a1 k hk, by rw [F2.gi 69 2 rfl, F1.gi 69 2 rfl, gi_si, if_pos ⟨rfl, rfl⟩]; rfl, fun k hk => a2 k (by omega)⟩
  obtain ⟨V3, e3, r3, F3⟩ := C_PG K hz (hm h) 0 b 0 80 0 p0 V2 (by omega) (by omega) hb (fun q hq => absurd hq (by omega)) (by have := popc_le b h64; omega) r2 F2'
  have e4 : d_Pairing_partAll (on b) V = some V3 := by
    rw [d_Pairing_partAll, e1, bd_some, e2, bd_some]
    show ((d_Pairing_part_R 80 (on b) 0 0 V2).bind _) = _
    have e3' : d_Pairing_part_R 80 (on b) 0 0 V2 = some V3 := e3
    rw [e3']; rfl
  generalize PG h f z (hm h) 0 b (popc b % 2) 0 p0 = s at *
  obtain ⟨q1, q2⟩ := row_clear V3
  rw [d_X_pairs, hasAll_eq K.1 K.2.1, bd_some, if_pos (by rw [tf_pos hbb]; decide), e4, bd_some, q1, bd_some]
  have := loop_n (fun n (_ : Unit) x V => d_X_pairs_30 n x V) (fun c : Int32 × ai_V => some c)
    (fun i _ V' => cRow V' (prR h s i) ∧ Fr ([(22, 1)], [23]) V3 V') (fun c => c.1 = s.2.1 ∧ cRow c.2 (prR h s (hm h))) (hm h) ?_ ?_ (hm h) 0 ai_N () _ (by omega) (N_gt (by omega)) ⟨q2, Fr.si Fr.rf rfl⟩
  · obtain ⟨⟨c1, c2⟩, e, q1, q2⟩ := this
    simp only at q1 q2
    subst q1
    exact ⟨c2, e, q2⟩
  · rintro n _ i V4 hi ⟨r4, F4⟩
    show ∃ (a' : Unit) (V' : ai_V), d_X_pairs_30 (n + 1) (on i) V4 = _ ∧ _
    have C4 := ((K.2.1.fr F3 rfl).fr F4 rfl)
    obtain ⟨V5, e5, r5, F5⟩ := row_add r4 (by rw [prR_len]; omega) (s.2.2 i).toInt64
    rw [d_X_pairs_30, C4.1, if_neg (by rw [on_le (by omega) (by omega)]; omega), if_pos (by rw [on_in (by omega)]; omega), on_nn (by omega), F4.ga 70 rfl, r3.2.2 i hi, e5, bd_some, on_s]
    exact ⟨(), V5, rfl, by rw [prR_s]; exact r5, Fr.tr F4 F5 rfl⟩
  · rintro n _ V4 ⟨r4, F4⟩
    show ∃ c : Int32 × ai_V, d_X_pairs_30 (n + 1) (on (hm h)) V4 = _ ∧ _
    have C4 := ((K.2.1.fr F3 rfl).fr F4 rfl)
    rw [d_X_pairs_30, C4.1, if_pos (Int32.le_refl _), F4.gi 69 2 rfl, r3.2.1]
    exact ⟨_, rfl, rfl, r4⟩
theorem M_pairs {V : ai_V} {h : Hs} {f : Rf} {z : Ss} {b : Nat} (K : KM V h f) (hz : mS z V 90 0) (hb : b < 2 ^ hm h) :
    ∃ V', d_M_pairs (on b) V = some ((PG h f z (hm h) 0 b (popc b % 2) 0 p0).2.1, V') ∧ mRow V' (prR h (PG h f z (hm h) 0 b (popc b % 2) 0 p0) (hm h)) := by
  have h6 := K.1.1
  have h64 := Nat.lt_of_lt_of_le hb (two_le h6)
  have hpl := popc_le b h64
  have hbb : 0 ≤ on b ∧ on b < on (2 ^ hm h) := ⟨on_ge0 (by omega), by rw [on_lt (by omega) (by have := two_le h6; omega)]; exact hb⟩
  rw [d_M_pairs, areThose_eq K.1 (K.s14 0).2.1, bd_some, if_pos (by rw [tf_pos hbb]; decide)]
  have hleaf := PG_leaf K.1 f z (hm h) 0 b 0 p0 (by omega) hb (fun q hq => absurd hq (by omega)) (by decide) (by have e0 : (0 : Int32).toInt = 0 := rfl; omega)
  have := loop_n (fun n (_ : Unit) x V => d_M_pairs_17 n (on b) x V) (fun c : Int32 × ai_V => some c)
    (fun i _ V' => (∀ k, k < i → ga V' 105 k = -1) ∧ Fr wPM V V') (fun c => c.1 = (PG h f z (hm h) 0 b (popc b % 2) 0 p0).2.1 ∧ mRow c.2 (prR h (PG h f z (hm h) 0 b (popc b % 2) 0 p0) (hm h))) 6 ?_ ?_ 6 0 ai_N () (si V 89 14 0) (by omega) (N_gt (by omega)) ⟨fun k hk => absurd hk (by omega), Fr.si Fr.rf rfl⟩
  · obtain ⟨⟨c1, c2⟩, e, q1, q2⟩ := this
    simp only at q1 q2
    subst q1
    exact ⟨c2, e, q2⟩
  · rintro n _ i V1 hi ⟨a1, hF⟩
    show ∃ (a' : Unit) (V' : ai_V), d_M_pairs_17 (n + 1) (on b) (on i) V1 = _ ∧ _
    rw [d_M_pairs_17, if_neg (by rw [show (6 : Int32) = on 6 from rfl, on_le (by omega) (by omega)]; omega), if_pos (by rw [on_in (by omega)]; omega), on_s, on_nn (by omega)]
    refine ⟨(), _, rfl, fun k hk => ?_, Fr.sa hF rfl⟩
    rw [ga_sa]
    by_cases e : k = i
    · rw [if_pos ⟨rfl, e⟩]
    · rw [if_neg (fun hc => e hc.2)]; exact a1 k (by omega)
  · rintro n _ V1 ⟨a1, hF⟩
    show ∃ c : Int32 × ai_V, d_M_pairs_17 (n + 1) (on b) (on 6) V1 = _ ∧ _
    have F2 : Fr wPM V (si V1 89 43 (-1)) := Fr.si hF rfl
    have r2 : rM h p0 (si V1 89 43 (-1)) := ⟨fun k hk => a1 k hk, by rw [gi_si, if_pos ⟨rfl, rfl⟩]; rfl, fun hne => absurd rfl hne⟩
    obtain ⟨V3, e3, r3, F3⟩ := M_PG K hz (hm h) 0 b (popc b % 2) 80 0 p0 (si V1 89 43 (-1)) (by omega) (by omega) h64 (by omega) r2 F2
    have e3' : d_M_goPairs 0 (on b) (on (popc b % 2)) 0 (si V1 89 43 (-1)) = some V3 := e3
    rw [d_M_pairs_17, if_pos (by decide), bitCount_on b h64, bd_some, show (2 : Int32) = on 2 from rfl, on_mod (by omega) (by omega), e3', bd_some]
    generalize PG h f z (hm h) 0 b (popc b % 2) 0 p0 = s at *
    have hne : s.2.1 ≠ -1 := by
      intro e
      rw [e] at hleaf
      exact absurd hleaf (by decide)
    refine loop_n (fun n (_ : Unit) x V => d_M_pairs_61 n x V) (fun c : Int32 × ai_V => some c)
      (fun i _ V' => mRow V' (prR h s i) ∧ Fr ([(89, 13)], [97]) V3 V') (fun c => c.1 = s.2.1 ∧ mRow c.2 (prR h s (hm h))) (hm h) ?_ ?_ (hm h) 0 ai_N () _ (by omega) (N_gt (by omega)) ⟨m_row0 V3, Fr.si Fr.rf rfl⟩
    · rintro n _ i V4 hi ⟨r4, F4⟩
      show ∃ (a' : Unit) (V' : ai_V), d_M_pairs_61 (n + 1) (on i) V4 = _ ∧ _
      have M4 := ((K.2.1.fr F3 rfl).fr F4 rfl)
      obtain ⟨V5, e5, r5, F5⟩ := m_tell r4 (by rw [prR_len]; omega) (s.2.2 i).toInt64
      rw [d_M_pairs_61, M4.1, if_neg (by rw [on_le (by omega) (by omega)]; omega), if_pos (by rw [on_in (by omega)]; omega), on_nn (by omega), F4.ga 106 rfl, r3.2.2 hne i hi, e5, bd_some, on_s]
      exact ⟨(), V5, rfl, by rw [prR_s]; exact r5, Fr.tr F4 F5 rfl⟩
    · rintro n _ V4 ⟨r4, F4⟩
      show ∃ c : Int32 × ai_V, d_M_pairs_61 (n + 1) (on (hm h)) V4 = _ ∧ _
      have M4 := ((K.2.1.fr F3 rfl).fr F4 rfl)
      rw [d_M_pairs_61, M4.1, if_pos (Int32.le_refl _), F4.gi 89 43 rfl, r3.2.1]
      exact ⟨_, rfl, rfl, r4⟩
theorem st_pairs {N : Nat} {V : ai_V} (hI : Inv N V) (hN : N < 512) (x : Int32) : Step N V (d_X_pairs x) (d_M_pairs x) := by
  obtain ⟨h, f, z, rm, nw, kc, km, hS, hn, hb⟩ := hI.k
  have hO := kc.1
  have h6 := hO.1
  by_cases hx : 0 ≤ x ∧ x < on (2 ^ hm h)
  · obtain ⟨b, hb2, rfl⟩ := those_on hO hx
    obtain ⟨V1, e1, c1⟩ := X_pairs kc hS.2.1 hb2
    have F1 : Fr w_X_pairs V V1 := fr_X_pairs _ _ _ e1
    obtain ⟨V2, e2, c2⟩ := M_pairs (km.fr F1 rfl) (hS.2.2.1.fr F1 rfl) hb2
    have F2 : Fr w_M_pairs V1 V2 := fr_M_pairs _ _ _ e2
    exact ⟨_, V1, V2, e1, e2, hI.qq F1 F2 rfl rfl rfl rfl (o := some _) (fun r hr => by obtain rfl := Option.some.inj hr; rw [prR_len]; omega) c1 c2 (hI.x.fr2 F1 F2 rfl rfl)⟩
  · refine ⟨-1, V, si V 89 14 0, ?_, ?_, hI.no 0⟩
    · rw [d_X_pairs, hasAll_eq hO kc.2.1, bd_some, if_neg (fun hn => hn (tf_neg hx))]
    · rw [d_M_pairs, areThose_eq hO (km.s14 0).2.1, bd_some, if_neg (fun hn => hn (tf_neg hx))]
