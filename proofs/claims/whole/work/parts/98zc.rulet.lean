/-! ===== rule: a thing; what is reckoned ===== -/
theorem lat_7 (y : Int32) (V : ai_V) : d_Lat_indexOfChar_7 (19992 + 8) 7 y 0 V = some (if 116 = y then 0 else if 112 = y then 1 else if 119 = y then 2 else if 108 = y then 3 else if 110 = y then 4 else if 113 = y then 5 else if 121 = y then 6 else -1) := by
  have hi : ∀ j, j < 7 → ai_in (on j) 7 := fun j hj => by rw [on_in (by omega)]; exact hj
  have hl : ∀ j, j < 7 → ¬ (7 : Int32) ≤ on j := fun j hj => by rw [show (7 : Int32) = on 7 from rfl, on_le (by omega) (by omega)]; omega
  have s : ∀ (m j : Nat), j < 7 → d_Lat_indexOfChar_7 (m + 1) 7 y (on j) V = if ai_sb j = y then some (on j) else d_Lat_indexOfChar_7 m 7 y (on (j + 1)) V := by
    intro m j hj
    rw [d_Lat_indexOfChar_7, if_neg (hl j hj), if_pos (hi j hj), on_nn (by omega), on_s]
    by_cases e : ai_sb j = y
    · rw [if_neg (fun h => h e), if_pos e]
    · rw [if_pos e, if_neg e]
  show d_Lat_indexOfChar_7 (19999 + 1) 7 y (on 0) V = _
  rw [s 19999 0 (by omega), show ai_sb 0 = 116 from rfl]
  by_cases e : 116 = y
  · rw [if_pos e, if_pos e]; rfl
  rw [if_neg e, if_neg e, s 19998 1 (by omega), show ai_sb 1 = 112 from rfl]
  by_cases e : 112 = y
  · rw [if_pos e, if_pos e]; rfl
  rw [if_neg e, if_neg e, s 19997 2 (by omega), show ai_sb 2 = 119 from rfl]
  by_cases e : 119 = y
  · rw [if_pos e, if_pos e]; rfl
  rw [if_neg e, if_neg e, s 19996 3 (by omega), show ai_sb 3 = 108 from rfl]
  by_cases e : 108 = y
  · rw [if_pos e, if_pos e]; rfl
  rw [if_neg e, if_neg e, s 19995 4 (by omega), show ai_sb 4 = 110 from rfl]
  by_cases e : 110 = y
  · rw [if_pos e, if_pos e]; rfl
  rw [if_neg e, if_neg e, s 19994 5 (by omega), show ai_sb 5 = 113 from rfl]
  by_cases e : 113 = y
  · rw [if_pos e, if_pos e]; rfl
  rw [if_neg e, if_neg e, s 19993 6 (by omega), show ai_sb 6 = 121 from rfl]
  by_cases e : 121 = y
  · rw [if_pos e, if_pos e]; rfl
  rw [if_neg e, if_neg e, d_Lat_indexOfChar_7, if_pos (by decide)]
theorem ix_dec : ∀ b, b < 256 → ((on b).toUInt32 % 65536).toInt32 = on b ∧ 0 ≤ on b ∧ on b ≤ 255 ∧ (if 116 = (on b).toInt8.toInt32 then (0 : Int32) else if 112 = (on b).toInt8.toInt32 then 1 else if 119 = (on b).toInt8.toInt32 then 2 else if 108 = (on b).toInt8.toInt32 then 3 else if 110 = (on b).toInt8.toInt32 then 4 else if 113 = (on b).toInt8.toInt32 then 5 else if 121 = (on b).toInt8.toInt32 then 6 else -1) = (if vIx (on b) < 7 then on (vIx (on b)) else -1) := by decide +kernel
theorem indexOf_eq {b : Nat} (hb : b < 256) (V : ai_V) : d_Str_indexOf (((on b).toUInt32 % 65536).toInt32) V = some (if vIx (on b) < 7 then on (vIx (on b)) else -1) := by
  obtain ⟨h1, h2, h3, h4⟩ := ix_dec b hb
  rw [h1, d_Str_indexOf, d_Str_indexOf2, d_Str_isLatin1, bd_some, if_neg (by decide), d_Str_length, d_Str_coder, bd_some, bd_some, show (7 : Int32) >>> ((0 : Int32) &&& 31) = 7 by decide, d_Lat_indexOf, d_Lat_canEncode, if_neg (nlt.mpr h2), if_neg (nlt.mpr h3), bd_some, if_pos (by decide), show ai_max 0 0 = 0 by decide, show ai_min 7 7 = 7 by decide, if_pos (by decide), d_Lat_indexOfChar]
  have := lat_7 (on b).toInt8.toInt32 V
  rw [h4] at this
  show ((((d_Lat_indexOfChar_7 (19992 + 8) 7 (on b).toInt8.toInt32 0 V).bind _).bind _).bind _) = _
  rw [this]; rfl
theorem C_v {V0 : ai_V} {c : Nat → Int32} (hc : KH c) {T : Int32 → ai_V → Option (Int32 × ai_V)} {V : ai_V} {i : Nat} {pre : List Int32} (hk : kC V i pre) (hl : pre.length ≤ i) (hi : i ≤ 40) (hF : Fr wK V0 V) : CK V0 pre (d_Rule_thing_72 T (c i) V) (rpV c i) := by
  have hq : ∃ q, q ≤ 40 ∧ gi V 10 6 = on q := ⟨pre.length, by omega, hk.2.1⟩
  rw [d_Rule_thing_72, rpV]
  rcases hc.2 i with e | ⟨b, hb, e⟩
  · rw [e, if_neg (by decide), d_Rule_thing_87, if_neg (by decide), if_neg (by decide)]
    exact CK_out hk.1 hq hF
  · rw [e, if_pos (on_ge0 (by omega)), indexOf_eq hb, bd_some, d_Rule_thing_87]
    by_cases ev : vIx (on b) < 7
    · have h40 := hc.lt (show ¬ c i = -1 by rw [e]; exact on_ne_m1 (by omega))
      obtain ⟨V3, e3, k3, F3⟩ := emit_y hk (by omega) hF (on (1000 + vIx (on b)))
      rw [if_pos ev, if_pos (on_ge0 (by omega)), if_pos ev, show (1000 : Int32) = on 1000 from rfl, on_add, e3, bd_some]
      exact ⟨_, rfl, kC_go k3, (go7 F3)⟩
    · rw [if_neg ev, if_neg (by decide), if_neg ev]
      exact CK_out hk.1 hq hF
theorem C_d {V0 : ai_V} {c : Nat → Int32} (hc : KH c) (hH : HC V0 c) {V : ai_V} {i : Nat} {pre : List Int32} (hk : kC V i pre) (hl : pre.length ≤ i) (hi : i ≤ 40) (hF : Fr wK V0 V) (hd : btw (c i) 48 57) : CK V0 pre ((d_Rule_number V).bind fun q7 => some (1, q7)) (rpD c i) := by
  obtain ⟨b, b1, b2, b3⟩ := btw_on hd
  have h40 := hc.lt (show ¬ c i = -1 by rw [b3]; exact on_ne_m1 (by omega))
  obtain ⟨V1, e1, k1, F1⟩ := C_num hc hH (pre := pre) 3 i 0 0 ai_N V (by omega) (N_gt (by omega)) hi hk hF
  have e1' : d_Rule_number V = d_Rule_number_48 (on (nmb c 3 i 0).2) V1 := e1
  obtain ⟨V3, e3, k3, F3⟩ := emit_y k1 (by omega) F1 (on (nmb c 3 i 0).2)
  rw [e1', d_Rule_number_48, e3, bd_some, bd_some]
  exact ⟨V3, rfl, k3, F3⟩
theorem C_thing {V0 : ai_V} {c : Nat → Int32} (hc : KH c) (hH : HC V0 c) : ∀ (k fu d : Nat), d + k = 4 → k < fu → RdC V0 (d_Rule_thing_R fu (on d)) (rpT c k) := by
  intro k
  induction k with
  | zero =>
    intro fu d hd hfu V i pre hk hl hi hF
    obtain ⟨fu, rfl⟩ : ∃ n', fu = n' + 1 := ⟨fu - 1, by omega⟩
    rw [d_Rule_thing_R, d_Rule_thing_B, hH V i hF hk.1 hi, bd_some, isDigit_eq, bd_some, rpT]
    by_cases e : btw (c i) 48 57
    · rw [if_neg (by rw [tf_pos e]; decide), if_pos e]
      exact C_d hc hH hk hl hi hF e
    · rw [if_pos (tf_neg e), if_neg e]
      by_cases e2 : c i = 40
      · rw [if_neg (fun h => h e2), show (4 : Int32) = on 4 from rfl, if_pos (by rw [on_le (by omega) (by omega)]; omega)]
        exact C_v hc hk hl hi hF
      · rw [if_pos e2]
        exact C_v hc hk hl hi hF
  | succ k ih =>
    intro fu d hd hfu V i pre hk hl hi hF
    obtain ⟨fu, rfl⟩ : ∃ n', fu = n' + 1 := ⟨fu - 1, by omega⟩
    rw [d_Rule_thing_R, d_Rule_thing_B, hH V i hF hk.1 hi, bd_some, isDigit_eq, bd_some, rpT]
    by_cases e : btw (c i) 48 57
    · rw [if_neg (by rw [tf_pos e]; decide), if_pos e]
      exact C_d hc hH hk hl hi hF e
    · rw [if_pos (tf_neg e), if_neg e]
      by_cases e2 : c i = 40
      · have h40 := hc.lt (show ¬ c i = -1 by rw [e2]; decide)
        have hE := C_expr hc hH (rpT_good hc k) (ih fu (d + 1) (by omega) (by omega))
        have h := hE _ (i + 1) pre (kC_go hk) (by omega) (by omega) (go7 hF)
        have hg := rpE_good hc (rpT_good hc k) (i := i + 1) (by omega)
        rw [if_neg (fun h => h e2), show (4 : Int32) = on 4 from rfl, if_neg (by rw [on_le (by omega) (by omega)]; omega), if_pos e2, on_s]
        generalize rpE c (rpT c k) (i + 1) = r at h hg
        rcases r with p | ⟨j, f, l⟩
        · obtain ⟨V2, e2, a1, a2, F2⟩ := h
          rw [e2, bd_some, if_pos rfl]
          exact CK_out a1 a2 F2
        · obtain ⟨V2, e2, k2, F2⟩ := h
          obtain ⟨g1, g2, g3, g4, g5⟩ := hg
          rw [e2, bd_some, if_neg (show ¬ (1 : Int32) = 0 by decide), hH V2 j F2 k2.1 g3, bd_some]
          show CK V0 pre _ (if c j = 41 then .inr (j + 1, f, l) else .inl j)
          by_cases e3 : c j = 41
          · rw [if_pos e3, if_pos e3]
            exact ⟨_, rfl, kC_go k2, (go7 F2)⟩
          · rw [if_neg e3, if_neg e3]
            exact CK_out k2.1 ⟨(pre ++ l).length, by rw [List.length_append]; omega, k2.2.1⟩ F2
      · rw [if_pos e2, if_neg e2]
        exact C_v hc hk hl hi hF
/-! reckoned -/
theorem joined_eq (o a b : Int32) (V : ai_V) : d_Rule_joined o a b V = some (opf o a b) := by
  rw [d_Rule_joined, opf]
  by_cases e : o = 42
  · rw [if_pos e, if_pos e]
  rw [if_neg e, if_neg e]
  by_cases e : o = 43
  · rw [if_pos e, if_pos e]
  rw [if_neg e, if_neg e]
  by_cases e : o = 45
  · rw [if_pos e, if_pos e]
  rw [if_neg e, if_neg e]
  by_cases e : o = 47
  · rw [if_pos e, if_pos e]
    by_cases e0 : b = 0
    · rw [if_neg (fun h => h e0), if_pos e0]
    · rw [if_pos e0, if_neg e0, if_neg e0]
  rw [if_neg e, if_neg e]
  by_cases e : o = 60
  · rw [if_pos e, if_pos e]
    by_cases e0 : b ≤ a
    · rw [if_pos e0, if_pos e0]
    · rw [if_neg e0, if_neg e0]
  rw [if_neg e, if_neg e]
  by_cases e : o = 62
  · rw [if_pos e, if_pos e]
    by_cases e0 : a ≤ b
    · rw [if_pos e0, if_pos e0]
    · rw [if_neg e0, if_neg e0]
  rw [if_neg e, if_neg e]
  by_cases e0 : a = b
  · rw [if_neg (fun h => h e0), if_pos e0]
  · rw [if_pos e0, if_neg e0]
def aSt (V : ai_V) (st : List Int32) : Prop := ∀ t, t < st.length → ga V 13 t = st.getD (st.length - 1 - t) 0
theorem aSt_push {V : ai_V} {st : List Int32} (h : aSt V st) (x : Int32) : aSt (sa V 13 st.length x) (x :: st) := by
  intro t ht
  rw [List.length_cons] at ht ⊢
  rw [ga_sa]
  by_cases e : t = st.length
  · rw [if_pos ⟨rfl, e⟩, show st.length + 1 - 1 - t = 0 by omega]; rfl
  · rw [if_neg (fun hc => e hc.2), h t (by omega), show st.length + 1 - 1 - t = (st.length - 1 - t) + 1 by omega]; rfl
theorem aSt_tail {V : ai_V} {a : Int32} {st : List Int32} (h : aSt V (a :: st)) : aSt V st ∧ ga V 13 st.length = a := by
  refine ⟨fun t ht => ?_, ?_⟩
  · rw [h t (by rw [List.length_cons]; omega), List.length_cons, show st.length + 1 - 1 - t = (st.length - 1 - t) + 1 by omega]; rfl
  · rw [h st.length (by rw [List.length_cons]; omega), List.length_cons, show st.length + 1 - 1 - st.length = 0 by omega]; rfl
theorem on_mm1 (m : Nat) : on (m + 1) + (-1) = on m := by
  rw [← on_s, Int32.add_assoc, show (1 : Int32) + (-1) = 0 by decide]; exact Int32.add_zero _
theorem on_p1 (m : Nat) : on (m + 1) - 1 = on m := by rw [one_on, on_sub (by omega)]; rfl
theorem rk_loop {e : Ev} : ∀ (rest : List Int32) (q n : Nat) (st : List Int32) (V : ai_V), (∀ t, t < rest.length → ga V 11 (q + t) = rest.getD t 0) → gi V 10 1 = on (q + rest.length) → q + rest.length ≤ 40 → st.length ≤ q → aSt V st → (∀ k, k < 7 → ga V 12 k = e k) → (∀ x, x ∈ rest → okc x) → rest.length < n → ∀ v, rnC e rest st = [v] → q + rest.length ≠ 0 →
    ∃ V', d_Rule_reckoned_4 n (on st.length) (on q) V = some (clp v, V') := by
  intro rest
  induction rest with
  | nil =>
    intro q n st V hc hn h40 hst ha he hok hr v hv h0
    obtain ⟨n, rfl⟩ : ∃ n', n = n' + 1 := ⟨n - 1, by omega⟩
    have hst1 : st = [v] := hv
    subst hst1
    rw [List.length_nil, Nat.add_zero] at hn h0
    rw [d_Rule_reckoned_4, hn, if_pos (Int32.le_refl _), if_pos (by rw [zero_on, on_inj (by omega) (by omega)]; exact h0), d_Rule_reckoned_196, show ((0 : Int32)).toNatClampNeg = 0 from rfl, ha 0 (by simp)]
    exact ⟨V, rfl⟩
  | cons x rest ih =>
    intro q n st V hc hn h40 hst ha he hok hr v hv h0
    obtain ⟨n, rfl⟩ : ∃ n', n = n' + 1 := ⟨n - 1, by omega⟩
    rw [List.length_cons] at hn h40 hr
    have hx : ga V 11 q = x := by
      have := hc 0 (by rw [List.length_cons]; omega)
      simpa using this
    have hv' : rnC e rest (stp e x st) = [v] := hv
    -- what is left
    have nxt : ∀ V2, Fr ([], [13]) V V2 → aSt V2 (stp e x st) → (stp e x st).length ≤ q + 1 → ∃ V', d_Rule_reckoned_4 n (on (stp e x st).length) (on (q + 1)) V2 = some (clp v, V') := by
      intro V2 F2 a2 l2
      refine ih (q + 1) n (stp e x st) V2 (fun t ht => ?_) (by rw [F2.gi 10 1 rfl, hn]; congr 1; omega) (by omega) l2 a2 (fun k hk => by rw [F2.ga 12 rfl]; exact he k hk) (fun y hy => hok y (List.mem_cons_of_mem _ hy)) (by omega) v hv' (by omega)
      rw [F2.ga 11 rfl]
      have := hc (t + 1) (by rw [List.length_cons]; omega)
      rw [show q + 1 + t = q + (t + 1) by omega, this]; rfl
    obtain ⟨k, hk, hkk⟩ := hok x (List.mem_cons_self ..)
    rw [d_Rule_reckoned_4, hn, if_neg (by rw [on_le (by omega) (by omega)]; omega), if_pos (by rw [on_in (by omega)]; omega), on_nn (by omega), hx, show (2000 : Int32) = on 2000 from rfl]
    rcases hkk with h | h | h
    · have hs : stp e x st = x :: st := by
        rw [stp, hk, if_neg (by rw [show (2000 : Int32) = on 2000 from rfl, on_le (by omega) (by omega)]; omega), if_neg (by rw [show (1000 : Int32) = on 1000 from rfl, on_le (by omega) (by omega)]; omega)]
      rw [if_neg (by rw [hk, on_le (by omega) (by omega)]; omega), show Int32.ofNat 40 = on 40 from rfl, if_neg (by rw [on_le (by omega) (by omega)]; omega), if_pos (by rw [hk, show (1000 : Int32) = on 1000 from rfl, on_lt (by omega) (by omega)]; omega), d_Rule_reckoned_60, d_Rule_reckoned_74, if_pos (by rw [on_in (by omega)]; omega), d_Rule_reckoned_157, on_s, on_s, on_nn (by omega)]
      have := nxt (sa V 13 st.length x) (Fr.sa Fr.rf rfl) (by rw [hs]; exact aSt_push ha x) (by rw [hs, List.length_cons]; omega)
      rw [hs, List.length_cons] at this
      exact this
    · have hs : stp e x st = e (k - 1000) :: st := by
        rw [stp, hk, if_neg (by rw [show (2000 : Int32) = on 2000 from rfl, on_le (by omega) (by omega)]; omega), if_pos (by rw [show (1000 : Int32) = on 1000 from rfl, on_le (by omega) (by omega)]; omega), show (1000 : Int32) = on 1000 from rfl, on_sub (by omega), on_nn (by omega)]
      rw [if_neg (by rw [hk, on_le (by omega) (by omega)]; omega), show Int32.ofNat 40 = on 40 from rfl, if_neg (by rw [on_le (by omega) (by omega)]; omega), show (1000 : Int32) = on 1000 from rfl, if_neg (by rw [hk, on_lt (by omega) (by omega)]; omega), hk, on_sub (by omega), show Int32.ofNat 7 = on 7 from rfl, if_pos (by rw [on_lt (by omega) (by omega)]; omega), if_pos (by rw [on_in (by omega)]; omega), d_Rule_reckoned_74, if_pos (by rw [on_in (by omega)]; omega), d_Rule_reckoned_157, on_s, on_s, on_nn (by omega), on_nn (by omega), he (k - 1000) (by omega)]
      have := nxt (sa V 13 st.length (e (k - 1000))) (Fr.sa Fr.rf rfl) (by rw [hs]; exact aSt_push ha _) (by rw [hs, List.length_cons]; omega)
      rw [hs, List.length_cons] at this
      exact this
    · have h2 : on 2000 ≤ x := by rw [hk, on_le (by omega) (by omega)]; omega
      rw [if_pos h2, d_Rule_reckoned_81]
      have h99 : d_Rule_reckoned_112 (d_Rule_reckoned_4 n) (on st.length) (on q) x V = if on st.length ≤ 1 then d_Rule_reckoned_157 (d_Rule_reckoned_4 n) (on st.length) (on q) V else (if ai_in ((on st.length + (-1 : Int32)) - (1 : Int32)) 40 then (if ai_in (on st.length + (-1 : Int32)) 40 then ((d_Rule_joined (x - (2000 : Int32)) (ga V 13 (((on st.length + (-1 : Int32)) - (1 : Int32))).toNatClampNeg) (ga V 13 ((on st.length + (-1 : Int32))).toNatClampNeg) V).bind fun q1 => (if ai_in ((on st.length + (-1 : Int32)) - (1 : Int32)) 40 then (d_Rule_reckoned_157 (d_Rule_reckoned_4 n) (on st.length + (-1 : Int32)) (on q) (sa V 13 (((on st.length + (-1 : Int32)) - (1 : Int32))).toNatClampNeg q1)) else none)) else none) else none) := by
        rw [d_Rule_reckoned_112, if_neg (by rw [hk, show (2000 : Int32) = on 2000 from rfl, on_le (by omega) (by omega)]; omega)]
      by_cases e6 : x = 2126
      · rw [if_neg (fun hn => hn e6)]
        rcases st with _ | ⟨a, r⟩
        · have hs : stp e x [] = [] := by rw [stp, if_pos (show (2000 : Int32) ≤ x from h2), if_pos e6]; rfl
          rw [if_pos (by decide), h99, if_pos (by decide), d_Rule_reckoned_157, on_s]
          have := nxt V Fr.rf (by rw [hs]; exact ha) (by rw [hs]; exact Nat.zero_le _)
          rw [hs] at this
          exact this
        · have hs : stp e x (a :: r) = -a :: r := by rw [stp, if_pos (show (2000 : Int32) ≤ x from h2), if_pos e6]; rfl
          obtain ⟨a1, a2⟩ := aSt_tail ha
          rw [List.length_cons] at hst ⊢
          have hin : ai_in (on r.length) 40 := by rw [on_in (by omega)]; omega
          rw [if_neg (by rw [zero_on, on_le (by omega) (by omega)]; omega), on_p1, if_pos hin, if_pos hin, d_Rule_reckoned_157, on_s, on_nn (by omega), a2]
          have := nxt (sa V 13 r.length (-a)) (Fr.sa Fr.rf rfl) (by rw [hs]; exact aSt_push a1 _) (by rw [hs, List.length_cons]; omega)
          rw [hs, List.length_cons] at this
          exact this
      · rw [if_pos e6, h99]
        rcases st with _ | ⟨b, _ | ⟨a, r⟩⟩
        · have hs : stp e x [] = [] := by rw [stp, if_pos (show (2000 : Int32) ≤ x from h2), if_neg e6]; rfl
          rw [if_pos (by decide), d_Rule_reckoned_157, on_s]
          have := nxt V Fr.rf (by rw [hs]; exact ha) (by rw [hs]; exact Nat.zero_le _)
          rw [hs] at this
          exact this
        · have hs : stp e x [b] = [b] := by rw [stp, if_pos (show (2000 : Int32) ≤ x from h2), if_neg e6]; rfl
          rw [if_pos (show on [b].length ≤ 1 from (show on 1 ≤ 1 by decide)), d_Rule_reckoned_157, on_s]
          have := nxt V Fr.rf (by rw [hs]; exact ha) (by rw [hs]; exact Nat.le_trans hst (by omega))
          rw [hs] at this
          exact this
        · have hs : stp e x (b :: a :: r) = opf (x - 2000) a b :: r := by rw [stp, if_pos (show (2000 : Int32) ≤ x from h2), if_neg e6]; rfl
          obtain ⟨a1, a2⟩ := aSt_tail ha
          obtain ⟨a3, a4⟩ := aSt_tail a1
          rw [List.length_cons] at a2
          rw [List.length_cons, List.length_cons] at hst ⊢
          have hin : ai_in (on r.length) 40 := by rw [on_in (by omega)]; omega
          have hin2 : ai_in (on (r.length + 1)) 40 := by rw [on_in (by omega)]; omega
          rw [if_neg (by rw [one_on, on_le (by omega) (by omega)]; omega), on_mm1, on_p1, if_pos hin, if_pos hin2, joined_eq, bd_some, if_pos hin, d_Rule_reckoned_157, on_s, show (on r.length).toNatClampNeg = r.length from on_nn (by omega), show (on (r.length + 1)).toNatClampNeg = r.length + 1 from on_nn (by omega), a2, a4]
          have := nxt (sa V 13 r.length (opf (x - 2000) a b)) (Fr.sa Fr.rf rfl) (by rw [hs]; exact aSt_push a3 _) (by rw [hs, List.length_cons]; omega)
          rw [hs, List.length_cons] at this
          exact this
def ev7 (t p w l n q y : Int32) : Ev := fun k => if k = 0 then t else if k = 1 then p else if k = 2 then w else if k = 3 then l else if k = 4 then n else if k = 5 then q else y
theorem CR_new {V : ai_V} {l : List Int32} {F : Ev → Int32} {i : Nat} (hg : GP i (.inr (40, F, l)) ∨ ∃ j, GP i (.inr (j, F, l))) (h1 : gi V 10 1 = on l.length) (h2 : ∀ q, q < l.length → ga V 11 q = l.getD q 0) : CR V (fun t p w l n q y => F (ev7 t p w l n q y)) := by
  obtain ⟨j, g1, g2, g3, g4, g5⟩ : ∃ j, GP i (.inr (j, F, l)) := by
    rcases hg with h | h
    · exact ⟨40, h⟩
    · exact h
  intro V' e1 e2
  have hne : 0 + l.length ≠ 0 := by
    intro h0
    have hl : l = [] := List.length_eq_zero_iff.mp (by omega)
    have := g5 (fun _ => 0) []
    rw [hl] at this
    exact absurd this (by simp [rnC])
  obtain ⟨V2, e3⟩ := rk_loop (e := ev7 (ga V' 12 0) (ga V' 12 1) (ga V' 12 2) (ga V' 12 3) (ga V' 12 4) (ga V' 12 5) (ga V' 12 6)) l 0 ai_N [] V' (fun t ht => by rw [e2, Nat.zero_add]; exact h2 t ht) (by rw [e1, h1, Nat.zero_add]) (by omega) (Nat.le_refl _) (fun t ht => absurd ht (by simp)) (fun k hk => by
    rcases (show k = 0 ∨ k = 1 ∨ k = 2 ∨ k = 3 ∨ k = 4 ∨ k = 5 ∨ k = 6 by omega) with rfl | rfl | rfl | rfl | rfl | rfl | rfl <;> rfl) g4 (N_gt (by omega)) _ (g5 _ []) hne
  exact ⟨V2, e3⟩
