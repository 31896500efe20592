/-! ===== pairs ===== -/
theorem ga_cpy (V : ai_V) (o r sp dp n o' k : Nat) : ga (ai_cpy V o r sp dp n) o' k = if o' = r then (if dp ≤ k ∧ k < dp + n then ga V o (sp + (k - dp)) else ga V r k) else ga V o' k := by
  show (if o' = r then va_cpy (V.2.2.1 o) (V.2.2.1 r) sp dp n else V.2.2.1 o') k = _
  by_cases e : o' = r
  · rw [if_pos e, if_pos e]; rfl
  · rw [if_neg e, if_neg e]; rfl
abbrev Ps : Type := (Nat → Int32) × Int32 × (Nat → Int32)
def pU (sum : Int32) (s : Ps) : Ps := if s.2.1 < sum then (s.1, sum, s.1) else s
def pSt (i o : Nat) (s : Ps) : Ps := (fun k => if k = o then on i else if k = i then on o else s.1 k, s.2.1, s.2.2)
def pUn (i o : Nat) (s : Ps) : Ps := (fun k => if k = o then -1 else if k = i then -1 else s.1 k, s.2.1, s.2.2)
def PG (h : Hs) (f : Rf) (z : Ss) : Nat → Nat → Nat → Nat → Int32 → Ps → Ps
  | 0, _, _, _, sum, s => pU sum s
  | k + 1, i, b, ov, sum, s => if b.testBit i = true then
      fo (fun o s => if b.testBit o = true then pUn i o (PG h f z k (i + 1) (b ^^^ 2 ^ i ^^^ 2 ^ o) ov (sum + L2 h f z i o) (pSt i o s)) else s) k (i + 1) (if 0 < ov then PG h f z k (i + 1) (b ^^^ 2 ^ i) (ov - 1) sum s else s)
    else PG h f z k (i + 1) b ov sum s
theorem xr_on : ∀ b, b < 64 → ∀ i, i < 6 → on b ^^^ ((1 : Int32) <<< (on i &&& 31)) = on (b ^^^ 2 ^ i) ∧ b ^^^ 2 ^ i < 64 ∧ (b.testBit i = true → on b &&& (((1 : Int32) <<< (on i &&& 31)) ^^^ (-1 : Int32)) = on (b ^^^ 2 ^ i) ∧ popc (b ^^^ 2 ^ i) + 1 = popc b) := by decide +kernel
theorem xr_on2 : ∀ b, b < 64 → ∀ i, i < 6 → ∀ o, o < 6 → (b.testBit i = true ∧ b.testBit o = true ∧ i < o) → on b &&& ((((1 : Int32) <<< (on i &&& 31)) ||| ((1 : Int32) <<< (on o &&& 31))) ^^^ (-1 : Int32)) = on (b ^^^ 2 ^ i ^^^ 2 ^ o) ∧ popc (b ^^^ 2 ^ i ^^^ 2 ^ o) + 2 = popc b := by decide +kernel
theorem xr_tb : ∀ b, b < 64 → ∀ i, i < 6 → ∀ k, k < 6 → ((b ^^^ 2 ^ i).testBit k = true ↔ (if k = i then ¬ b.testBit i = true else b.testBit k = true)) := by decide +kernel
/-- the model -/
def rM (h : Hs) (s : Ps) (V : ai_V) : Prop := (∀ k, k < 6 → ga V 105 k = s.1 k) ∧ gi V 89 43 = s.2.1 ∧ (s.2.1 ≠ -1 → ∀ k, k < hm h → ga V 106 k = s.2.2 k)
def wPM : Fw := ([(89, 14), (89, 15), (89, 16), (89, 17), (89, 18), (89, 19), (89, 23), (89, 24), (89, 25), (89, 26), (89, 27), (89, 28), (89, 43)], [105, 106])
theorem rM_set {h : Hs} {s : Ps} {V V' : ai_V} {i o : Nat} {x y : Int32} (hr : rM h s V) (hV : V' = sa (sa V 105 i x) 105 o y) : rM h (fun k => if k = o then y else if k = i then x else s.1 k, s.2.1, s.2.2) V' := by
  obtain ⟨r1, r2, r3⟩ := hr
  subst hV
  refine ⟨fun k hk => ?_, r2, fun hne k hk => ?_⟩
  · rw [ga_sa, ga_sa, r1 k hk]
    simp only [true_and]
  · rw [ga_sa_ne (by decide), ga_sa_ne (by decide)]; exact r3 hne k hk
theorem rM.fr {h : Hs} {s : Ps} {V V' : ai_V} {w : Fw} (hr : rM h s V) (F : Fr w V V') (hd : fw_dis ([(89, 43)], [105, 106]) w = true) : rM h s V' := by
  have t := Sm.of F hd
  unfold rM at *
  rw [t.i 89 43 rfl, t.a 105 rfl, t.a 106 rfl]; exact hr
theorem M_27 {T : Int32 → Int32 → Int32 → Int32 → ai_V → Option ai_V} {V : ai_V} {h : Hs} (hO : HO h) (hM : MH V h) : ∃ V', d_M_goPairs_27 T ai_N 0 V = some V' ∧ (∀ k, k < hm h → ga V' 106 k = ga V 105 k) ∧ Fr ([], [106]) V V' := by
  have h6 := hO.1
  refine loop_n (fun n (_ : Unit) x V => d_M_goPairs_27 T n x V) (fun c : ai_V => some c) (fun i _ V1 => (∀ k, k < i → ga V1 106 k = ga V 105 k) ∧ Fr ([], [106]) V V1) (fun V' => (∀ k, k < hm h → ga V' 106 k = ga V 105 k) ∧ Fr ([], [106]) V V') (hm h) ?_ ?_ (hm h) 0 ai_N () V (by omega) (N_gt (by omega)) ⟨fun k hk => absurd hk (by omega), Fr.rf⟩
  · rintro n _ i V1 hi ⟨a1, hF⟩
    have M1 := hM.fr hF rfl
    have hin : ai_in (on i) 6 := by rw [on_in (by omega)]; omega
    show ∃ a' V', d_M_goPairs_27 T (n + 1) (on i) V1 = _ ∧ _
    rw [d_M_goPairs_27, M1.1, if_neg (by rw [on_le (by omega) (by omega)]; omega), if_pos hin, if_pos hin, on_s, on_nn (by omega)]
    refine ⟨(), _, rfl, fun k hk => ?_, Fr.sa hF rfl⟩
    rw [ga_sa, hF.ga 105 rfl]
    by_cases e : k = i
    · rw [if_pos ⟨rfl, e⟩, e]
    · rw [if_neg (fun hc => e hc.2)]; exact a1 k (by omega)
  · rintro n _ V1 ⟨a1, hF⟩
    have M1 := hM.fr hF rfl
    show ∃ c : ai_V, d_M_goPairs_27 T (n + 1) (on (hm h)) V1 = _ ∧ _
    rw [d_M_goPairs_27, M1.1, if_pos (Int32.le_refl _)]
    exact ⟨V1, rfl, a1, hF⟩
theorem M_PG {V0 : ai_V} {h : Hs} {f : Rf} {z : Ss} (K : KM V0 h f) (hz : mS z V0 90 0) : ∀ (k i b ov fu : Nat) (sum : Int32) (s : Ps) (V : ai_V), i + k = hm h → k < fu → b < 64 → ov ≤ 1 → rM h s V → Fr wPM V0 V → ∃ V', d_M_goPairs_R fu (on i) (on b) (on ov) sum V = some V' ∧ rM h (PG h f z k i b ov sum s) V' ∧ Fr wPM V0 V' := by
  have h6 := K.1.1
  intro k
  induction k with
  | zero =>
    intro i b ov fu sum s V hi hfu hb hov hr hF
    obtain ⟨fu, rfl⟩ : ∃ n', fu = n' + 1 := ⟨fu - 1, by omega⟩
    obtain rfl : i = hm h := by omega
    have M1 := (K.fr hF rfl).2.1
    rw [d_M_goPairs_R, d_M_goPairs_B, M1.1, if_neg (fun hn => hn rfl), hr.2.1, PG, pU]
    by_cases e : s.2.1 < sum
    · rw [if_pos e, if_pos e]
      have F2 : Fr wPM V0 (si V 89 43 sum) := Fr.si hF rfl
      obtain ⟨V3, e3, a3, F3⟩ := M_27 (T := d_M_goPairs_R fu) K.1 (K.fr F2 rfl).2.1
      refine ⟨V3, e3, ⟨fun k hk => ?_, ?_, fun _ k hk => ?_⟩, Fr.tr F2 F3 rfl⟩
      · rw [F3.ga 105 rfl]; exact hr.1 k hk
      · rw [F3.gi 89 43 rfl, gi_si, if_pos ⟨rfl, rfl⟩]
      · rw [a3 k hk]; exact hr.1 k (by omega)
    · rw [if_neg e, if_neg e]
      exact ⟨V, rfl, hr, hF⟩
  | succ k ih =>
    intro i b ov fu sum s V hi hfu hb hov hr hF
    obtain ⟨fu, rfl⟩ : ∃ n', fu = n' + 1 := ⟨fu - 1, by omega⟩
    have M1 := (K.fr hF rfl).2.1
    rw [d_M_goPairs_R, d_M_goPairs_B, M1.1, if_pos (by rw [on_inj (by omega) (by omega)]; omega), mhas_on hb (by omega), bd_some, PG]
    by_cases e : b.testBit i = true
    · rw [if_pos (by rw [tf_pos e]; decide), if_pos e]
      obtain ⟨x1, x2, x3⟩ := xr_on b hb i (by omega)
      obtain ⟨x4, x5⟩ := x3 e
      -- the loop over the other one
      have lp : ∀ s1 V1, rM h s1 V1 → Fr wPM V0 V1 → ∃ V', d_M_goPairs_100 (d_M_goPairs_R fu) (on i) (on b) (on ov) sum V1 = some V' ∧ rM h (fo (fun o s => if b.testBit o = true then pUn i o (PG h f z k (i + 1) (b ^^^ 2 ^ i ^^^ 2 ^ o) ov (sum + L2 h f z i o) (pSt i o s)) else s) k (i + 1) s1) V' ∧ Fr wPM V0 V' := by
        intro s1 V1 r1 F1
        rw [d_M_goPairs_100, on_s]
        refine loop_n (fun n (_ : Unit) x V => d_M_goPairs_105 (d_M_goPairs_R fu) n (on i) (on b) (on ov) sum x V) (fun c : ai_V => some c)
          (fun o _ V' => i + 1 ≤ o ∧ rM h (fo (fun o s => if b.testBit o = true then pUn i o (PG h f z k (i + 1) (b ^^^ 2 ^ i ^^^ 2 ^ o) ov (sum + L2 h f z i o) (pSt i o s)) else s) (o - (i + 1)) (i + 1) s1) V' ∧ Fr wPM V0 V')
          (fun V' => rM h (fo (fun o s => if b.testBit o = true then pUn i o (PG h f z k (i + 1) (b ^^^ 2 ^ i ^^^ 2 ^ o) ov (sum + L2 h f z i o) (pSt i o s)) else s) k (i + 1) s1) V' ∧ Fr wPM V0 V') (hm h) ?_ ?_ k (i + 1) ai_N () V1 (by omega) (N_gt (by omega)) ⟨Nat.le_refl _, by rw [Nat.sub_self]; exact r1, F1⟩
        · rintro n _ o V2 ho ⟨io, r2, F2⟩
          have M2 := (K.fr F2 rfl).2.1
          show ∃ (a' : Unit) (V' : ai_V), d_M_goPairs_105 (d_M_goPairs_R fu) (n + 1) (on i) (on b) (on ov) sum (on o) V2 = _ ∧ _
          rw [d_M_goPairs_105, M2.1, if_neg (by rw [on_le (by omega) (by omega)]; omega), mhas_on hb (by omega), bd_some, show o + 1 - (i + 1) = o - (i + 1) + 1 by omega, fo_s, show i + 1 + (o - (i + 1)) = o by omega]
          generalize fo (fun o s => if b.testBit o = true then pUn i o (PG h f z k (i + 1) (b ^^^ 2 ^ i ^^^ 2 ^ o) ov (sum + L2 h f z i o) (pSt i o s)) else s) (o - (i + 1)) (i + 1) s1 = s2 at *
          by_cases e2 : b.testBit o = true
          · have hin : ai_in (on i) 6 := by rw [on_in (by omega)]; omega
            have hon : ai_in (on o) 6 := by rw [on_in (by omega)]; omega
            rw [if_pos (by rw [tf_pos e2]; decide), if_pos hin, if_pos hon, or_pw i (by omega) o (by omega), if_pos e2]
            have hni := on_nn (show i < 2147483648 by omega)
            have hno := on_nn (show o < 2147483648 by omega)
            have F3 : Fr wPM V0 (sa (sa V2 105 (on i).toNatClampNeg (on o)) 105 (on o).toNatClampNeg (on i)) := Fr.sa (Fr.sa F2 rfl) rfl
            have r3 : rM h (pSt i o s2) (sa (sa V2 105 (on i).toNatClampNeg (on o)) 105 (on o).toNatClampNeg (on i)) := rM_set r2 (by rw [hni, hno])
            obtain ⟨V4, e4, F4⟩ := mn_eq (K.fr F3 rfl) (hz.fr F3 rfl) (or_lt _ (pw_lt i (by omega)) o (by omega))
            have F4' : Fr wPM V0 V4 := Fr.tr F3 F4 rfl
            have xo := xr_on2 b hb i (by omega) o (by omega) ⟨e, e2, by omega⟩
            rw [or_pw i (by omega) o (by omega)] at xo
            obtain ⟨V5, e5, r5, F5⟩ := ih (i + 1) (b ^^^ 2 ^ i ^^^ 2 ^ o) ov fu (sum + L2 h f z i o) (pSt i o s2) V4 (by omega) (by omega) (xr_on _ x2 o (by omega)).2.1 hov (r3.fr F4 rfl) F4'
            rw [e4, bd_some, xo.1, on_s]
            show ∃ (a' : Unit) (V' : ai_V), ((d_M_goPairs_R fu (on (i + 1)) (on (b ^^^ 2 ^ i ^^^ 2 ^ o)) (on ov) (sum + L2 h f z i o) V4).bind _) = _ ∧ _
            rw [e5, bd_some, if_pos hin, if_pos hon, d_M_goPairs_192, on_s]
            exact ⟨(), _, rfl, by omega, rM_set r5 (by rw [hni, hno]), Fr.sa (Fr.sa F5 rfl) rfl⟩
          · rw [if_neg (fun hn => hn (tf_neg e2)), d_M_goPairs_192, on_s, if_neg e2]
            exact ⟨(), V2, rfl, by omega, r2, F2⟩
        · rintro n _ V2 ⟨io, r2, F2⟩
          have M2 := (K.fr F2 rfl).2.1
          show ∃ c : ai_V, d_M_goPairs_105 (d_M_goPairs_R fu) (n + 1) (on i) (on b) (on ov) sum (on (hm h)) V2 = _ ∧ _
          rw [d_M_goPairs_105, M2.1, if_pos (Int32.le_refl _)]
          rw [show hm h - (i + 1) = k by omega] at r2
          exact ⟨V2, rfl, r2, F2⟩
      by_cases e2 : 0 < ov
      · rw [if_neg (by rw [zero_on, on_le (by omega) (by omega)]; omega), if_pos e2, x4, on_s, one_on, on_sub (by omega)]
        obtain ⟨V2, e3, r2, F2⟩ := ih (i + 1) (b ^^^ 2 ^ i) (ov - 1) fu sum s V (by omega) (by omega) x2 (by omega) hr hF
        rw [e3, bd_some]
        exact lp _ V2 r2 F2
      · rw [if_pos (by rw [zero_on, on_le (by omega) (by omega)]; omega), if_neg e2]
        exact lp s V hr hF
    · rw [if_neg (fun hn => hn (tf_neg e)), if_neg e, on_s]
      obtain ⟨V2, e2, r2, F2⟩ := ih (i + 1) b ov fu sum s V (by omega) (by omega) hb hov hr hF
      rw [e2, bd_some]
      exact ⟨V2, rfl, r2, F2⟩
/-! the class -/
def rC (h : Hs) (s : Ps) (V : ai_V) : Prop := (∀ k, k < 6 → ga V 71 k = s.1 k) ∧ gi V 69 2 = s.2.1 ∧ ∀ k, k < hm h → ga V 70 k = s.2.2 k
def wPC : Fw := ([(69, 2)], [12, 13, 70, 71])
theorem rC_set {h : Hs} {s : Ps} {V V' : ai_V} {i o : Nat} {x y : Int32} (hr : rC h s V) (hV : V' = sa (sa V 71 i x) 71 o y) : rC h (fun k => if k = o then y else if k = i then x else s.1 k, s.2.1, s.2.2) V' := by
  obtain ⟨r1, r2, r3⟩ := hr
  subst hV
  refine ⟨fun k hk => ?_, r2, fun k hk => ?_⟩
  · rw [ga_sa, ga_sa, r1 k hk]
    simp only [true_and]
  · rw [ga_sa_ne (by decide), ga_sa_ne (by decide)]; exact r3 k hk
theorem rC.fr {h : Hs} {s : Ps} {V V' : ai_V} {w : Fw} (hr : rC h s V) (F : Fr w V V') (hd : fw_dis ([(69, 2)], [70, 71]) w = true) : rC h s V' := by
  have t := Sm.of F hd
  unfold rC at *
  rw [t.i 69 2 rfl, t.a 70 rfl, t.a 71 rfl]; exact hr
theorem C_25 {T : Int32 → Int32 → Int32 → ai_V → Option ai_V} {V0 V : ai_V} {h : Hs} {s : Ps} {sum : Int32} (h6 : hm h ≤ 6) (hr : rC h s V) (hF : Fr wPC V0 V) : ∃ V', d_Pairing_part_25 T sum V = some V' ∧ rC h (pU sum s) V' ∧ Fr wPC V0 V' := by
  obtain ⟨r1, r2, r3⟩ := hr
  rw [d_Pairing_part_25, r2, pU]
  by_cases e : s.2.1 < sum
  · rw [if_neg (nle.mpr e), if_pos e]
    refine ⟨_, rfl, ⟨fun k hk => ?_, ?_, fun k hk => ?_⟩, Fr.cp (Fr.si hF rfl) rfl⟩
    · rw [ga_cpy, if_neg (by decide), ga_si]; exact r1 k hk
    · show gi (si V 69 2 sum) 69 2 = sum
      rw [gi_si, if_pos ⟨rfl, rfl⟩]
    · rw [ga_cpy, if_pos rfl, show ((0 : Int32)).toNatClampNeg = 0 from rfl, show ((6 : Int32)).toNatClampNeg = 6 from rfl, if_pos (by omega), ga_si]
      rw [show 0 + (k - 0) = k by omega]; exact r1 k (by omega)
  · rw [if_pos (nlt.mp e), if_neg e]
    exact ⟨V, rfl, ⟨r1, r2, r3⟩, hF⟩
theorem PG_zero (h : Hs) (f : Rf) (z : Ss) : ∀ (k i : Nat) (sum : Int32) (s : Ps), PG h f z k i 0 0 sum s = pU sum s := by
  intro k
  induction k with
  | zero => intro i sum s; rfl
  | succ k ih => intro i sum s; rw [PG, if_neg (by simp), ih]
theorem PG_skip (h : Hs) (f : Rf) (z : Ss) {b : Nat} : ∀ (j k i ov : Nat) (sum : Int32) (s : Ps), (∀ q, i ≤ q → q < i + j → ¬ b.testBit q = true) → PG h f z (j + k) i b ov sum s = PG h f z k (i + j) b ov sum s := by
  intro j
  induction j with
  | zero => intro k i ov sum s _; rw [Nat.zero_add, Nat.add_zero]
  | succ j ih =>
    intro k i ov sum s hq
    rw [show j + 1 + k = j + k + 1 by omega, PG, if_neg (hq i (by omega) (by omega)), ih k (i + 1) ov sum s (fun q h1 h2 => hq q (by omega) (by omega)), show i + 1 + j = i + (j + 1) by omega]
theorem fst_bit : ∀ b, b < 64 → b ≠ 0 → ∃ i, i < 6 ∧ b.testBit i = true ∧ ∀ k, k < i → ¬ b.testBit k = true := by decide +kernel
theorem odd_on : ∀ n, n < 7 → (on n &&& (1 : Int32) = 1 ↔ n % 2 = 1) := by decide +kernel
theorem pop_pos : ∀ b, b < 64 → b ≠ 0 → 0 < popc b := by decide +kernel
theorem C_PG {V0 : ai_V} {h : Hs} {f : Rf} {z : Ss} (K : KC V0 h f) (hz : cS z V0 16) : ∀ (k i b d fu : Nat) (sum : Int32) (s : Ps) (V : ai_V), i + k = hm h → k < fu → b < 2 ^ hm h → (∀ q, q < i → ¬ b.testBit q = true) → d + popc b ≤ 6 → rC h s V → Fr wPC V0 V → ∃ V', d_Pairing_part_R fu (on b) sum (on d) V = some V' ∧ rC h (PG h f z k i b (popc b % 2) sum s) V' ∧ Fr wPC V0 V' := by
  have h6 := K.1.1
  intro k
  induction k using Nat.strongRecOn with
  | ind k ih =>
    intro i b d fu sum s V hi hfu hbm hlow hd hr hF
    have hb : b < 64 := Nat.lt_of_lt_of_le hbm (two_le h6)
    obtain ⟨fu, rfl⟩ : ∃ n', fu = n' + 1 := ⟨fu - 1, by omega⟩
    have K1 := K.fr hF rfl
    rw [d_Pairing_part_R, d_Pairing_part_B]
    by_cases e0 : b = 0
    · subst e0
      rw [firstOf_no K1.1 K1.2.1, bd_some, if_pos rfl]
      have : popc 0 % 2 = 0 := rfl
      rw [this, PG_zero]
      exact C_25 h6 hr hF
    · obtain ⟨i0, hi0, hbit, hlow0⟩ := fst_bit b hb e0
      have him : i0 < hm h := tb_m hbm hbit
      have hii : i ≤ i0 := by
        rcases Nat.lt_or_ge i0 i with q | q
        · exact absurd hbit (hlow i0 q)
        · exact q
      have hpp := pop_pos b hb e0
      have hpl := popc_le b hb
      obtain ⟨k0, hk0⟩ : ∃ k0, i0 + (k0 + 1) = hm h := ⟨hm h - i0 - 1, by omega⟩
      have hskip := PG_skip h f z (b := b) (i0 - i) (k0 + 1) i (popc b % 2) sum s (fun q _ h2 => hlow0 q (by omega))
      rw [show i0 - i + (k0 + 1) = k by omega, show i + (i0 - i) = i0 by omega] at hskip
      rw [hskip, PG, if_pos hbit]
      obtain ⟨x1, x2, x3⟩ := xr_on b hb i0 hi0
      obtain ⟨x4, x5⟩ := x3 hbit
      have hbm2 : b ^^^ 2 ^ i0 < 2 ^ hm h := Nat.xor_lt_two_pow hbm (pw_lt2 him)
      have hl1 : ∀ q, q < i0 + 1 → ¬ (b ^^^ 2 ^ i0).testBit q = true := by
        intro q hq hn
        rw [xr_tb b hb i0 hi0 q (by omega)] at hn
        by_cases eq : q = i0
        · rw [if_pos eq] at hn; exact hn hbit
        · rw [if_neg eq] at hn; exact hlow0 q (by omega) hn
      rw [firstOf_at K1.1 K1.2.1 hb him hbit hlow0, bd_some, if_neg (on_ne_m1 (by omega)), show (6 : Int32) = on 6 from rfl, if_pos (by rw [on_lt (by omega) (by omega)]; omega), bitCount_on b hb, bd_some, x1]
      -- the loop over the other one
      have lp : ∀ s1 V1, rC h s1 V1 → Fr wPC V0 V1 → ∃ V', d_Pairing_part_82 (d_Pairing_part_R fu) sum (on d) (on i0) (on (b ^^^ 2 ^ i0)) V1 = some V' ∧ rC h (fo (fun o s => if b.testBit o = true then pUn i0 o (PG h f z k0 (i0 + 1) (b ^^^ 2 ^ i0 ^^^ 2 ^ o) (popc b % 2) (sum + L2 h f z i0 o) (pSt i0 o s)) else s) k0 (i0 + 1) s1) V' ∧ Fr wPC V0 V' := by
        intro s1 V1 r1 F1
        rw [d_Pairing_part_82, on_s]
        refine loop_n (fun n (_ : Unit) x V => d_Pairing_part_88 (d_Pairing_part_R fu) n sum (on d) (on i0) (on (b ^^^ 2 ^ i0)) x V) (fun c : ai_V => some c)
          (fun o _ V' => i0 + 1 ≤ o ∧ rC h (fo (fun o s => if b.testBit o = true then pUn i0 o (PG h f z k0 (i0 + 1) (b ^^^ 2 ^ i0 ^^^ 2 ^ o) (popc b % 2) (sum + L2 h f z i0 o) (pSt i0 o s)) else s) (min k0 (o - (i0 + 1))) (i0 + 1) s1) V' ∧ Fr wPC V0 V')
          (fun V' => rC h (fo (fun o s => if b.testBit o = true then pUn i0 o (PG h f z k0 (i0 + 1) (b ^^^ 2 ^ i0 ^^^ 2 ^ o) (popc b % 2) (sum + L2 h f z i0 o) (pSt i0 o s)) else s) k0 (i0 + 1) s1) V' ∧ Fr wPC V0 V') 6 ?_ ?_ (6 - (i0 + 1)) (i0 + 1) ai_N () V1 (by omega) (N_gt (by omega)) ⟨Nat.le_refl _, by rw [Nat.sub_self, Nat.min_eq_right (by omega)]; exact r1, F1⟩
        · rintro n _ o V2 ho ⟨io, r2, F2⟩
          show ∃ (a' : Unit) (V' : ai_V), d_Pairing_part_88 (d_Pairing_part_R fu) (n + 1) sum (on d) (on i0) (on (b ^^^ 2 ^ i0)) (on o) V2 = _ ∧ _
          have htb : (b ^^^ 2 ^ i0).testBit o = true ↔ b.testBit o = true := by rw [xr_tb b hb i0 hi0 o ho, if_neg (by omega)]
          rw [d_Pairing_part_88, if_neg (by rw [show (6 : Int32) = on 6 from rfl, on_le (by omega) (by omega)]; omega)]
          by_cases e2 : b.testBit o = true
          · have hom : o < hm h := tb_m hbm e2
            rw [show min k0 (o + 1 - (i0 + 1)) = min k0 (o - (i0 + 1)) + 1 by omega, fo_s, show i0 + 1 + min k0 (o - (i0 + 1)) = o by omega, if_pos e2]
            generalize fo (fun o s => if b.testBit o = true then pUn i0 o (PG h f z k0 (i0 + 1) (b ^^^ 2 ^ i0 ^^^ 2 ^ o) (popc b % 2) (sum + L2 h f z i0 o) (pSt i0 o s)) else s) (min k0 (o - (i0 + 1))) (i0 + 1) s1 = s2 at *
            have hin : ai_in (on i0) 6 := by rw [on_in (by omega)]; omega
            have hon : ai_in (on o) 6 := by rw [on_in (by omega)]; omega
            have hni := on_nn (show i0 < 2147483648 by omega)
            have hno := on_nn (show o < 2147483648 by omega)
            have F3 : Fr wPC V0 (sa (sa V2 71 (on i0).toNatClampNeg (on o)) 71 (on o).toNatClampNeg (on i0)) := Fr.sa (Fr.sa F2 rfl) rfl
            have r3 : rC h (pSt i0 o s2) (sa (sa V2 71 (on i0).toNatClampNeg (on o)) 71 (on o).toNatClampNeg (on i0)) := rC_set r2 (by rw [hni, hno])
            obtain ⟨V4, e4, F4⟩ := tog_1 (K.fr F3 rfl) (hz.fr F3 rfl rfl rfl rfl) (pr_two him hom (by omega))
            have F4' : Fr wPC V0 V4 := Fr.tr F3 F4 rfl
            have xo := (xr_on2 b hb i0 hi0 o ho ⟨hbit, e2, by omega⟩).2
            obtain ⟨y1, y2, y3⟩ := xr_on _ x2 o ho
            obtain ⟨V5, e5, r5, F5⟩ := ih k0 (by omega) (i0 + 1) (b ^^^ 2 ^ i0 ^^^ 2 ^ o) (d + 1) fu (sum + L2 h f z i0 o) (pSt i0 o s2) V4 (by omega) (by omega) (Nat.xor_lt_two_pow hbm2 (pw_lt2 hom)) (by
              intro q hq hn
              rw [xr_tb _ x2 o ho q (by omega), if_neg (by omega)] at hn
              exact hl1 q hq hn) (by omega) (r3.fr F4 rfl) F4'
            rw [show popc (b ^^^ 2 ^ i0 ^^^ 2 ^ o) % 2 = popc b % 2 by omega] at r5
            rw [if_neg (fun hn => hn ((bt_on _ x2 o ho).mpr (htb.mpr e2))), if_pos hin, if_pos hon, e4, bd_some, y1, on_s]
            show ∃ (a' : Unit) (V' : ai_V), ((d_Pairing_part_R fu (on (b ^^^ 2 ^ i0 ^^^ 2 ^ o)) (sum + L2 h f z i0 o) (on (d + 1)) V4).bind _) = _ ∧ _
            rw [e5, bd_some, if_pos hin, if_pos hon, d_Pairing_part_171, on_s]
            exact ⟨(), _, rfl, by omega, rC_set r5 (by rw [hni, hno]), Fr.sa (Fr.sa F5 rfl) rfl⟩
          · rw [if_pos (fun hn => e2 (htb.mp ((bt_on _ x2 o ho).mp hn))), d_Pairing_part_171, on_s]
            refine ⟨(), V2, rfl, by omega, ?_, F2⟩
            by_cases eo : o - (i0 + 1) < k0
            · rw [show min k0 (o + 1 - (i0 + 1)) = min k0 (o - (i0 + 1)) + 1 by omega, fo_s, show i0 + 1 + min k0 (o - (i0 + 1)) = o by omega, if_neg e2]; exact r2
            · rw [show min k0 (o + 1 - (i0 + 1)) = min k0 (o - (i0 + 1)) by omega]; exact r2
        · rintro n _ V2 ⟨io, r2, F2⟩
          show ∃ c : ai_V, d_Pairing_part_88 (d_Pairing_part_R fu) (n + 1) sum (on d) (on i0) (on (b ^^^ 2 ^ i0)) (on 6) V2 = _ ∧ _
          rw [d_Pairing_part_88, if_pos (by decide)]
          rw [show min k0 (6 - (i0 + 1)) = k0 by omega] at r2
          exact ⟨V2, rfl, r2, F2⟩
      by_cases e2 : popc b % 2 = 1
      · rw [if_neg (fun hn => hn ((odd_on _ (by omega)).mpr e2)), on_s, if_pos (by omega), show popc b % 2 - 1 = popc (b ^^^ 2 ^ i0) % 2 by omega]
        obtain ⟨V2, e3, r2, F2⟩ := ih k0 (by omega) (i0 + 1) (b ^^^ 2 ^ i0) (d + 1) fu sum s V (by omega) (by omega) hbm2 hl1 (by omega) hr hF
        rw [e3, bd_some]
        exact lp _ V2 r2 F2
      · rw [if_pos (fun hn => e2 ((odd_on _ (by omega)).mp hn)), if_neg (by omega)]
        exact lp s V hr hF
/-! a way is found -/
theorem fo_le {g : Nat → Ps → Ps} (hg : ∀ o s, s.2.1.toInt ≤ (g o s).2.1.toInt) : ∀ k i s, s.2.1.toInt ≤ (fo g k i s).2.1.toInt := by
  intro k
  induction k with
  | zero => intro i s; exact Int.le_refl _
  | succ k ih =>
    intro i s
    exact Int.le_trans (hg i s) (ih (i + 1) (g i s))
theorem PG_mono (h : Hs) (f : Rf) (z : Ss) : ∀ (k i b ov : Nat) (sum : Int32) (s : Ps), s.2.1.toInt ≤ (PG h f z k i b ov sum s).2.1.toInt := by
  intro k
  induction k with
  | zero =>
    intro i b ov sum s
    rw [PG, pU]
    by_cases e : s.2.1 < sum
    · rw [if_pos e]; rw [ti_lt] at e; show s.2.1.toInt ≤ sum.toInt; omega
    · rw [if_neg e]; exact Int.le_refl _
  | succ k ih =>
    intro i b ov sum s
    rw [PG]
    by_cases e : b.testBit i = true
    · rw [if_pos e]
      refine Int.le_trans ?_ (fo_le ?_ k (i + 1) _)
      · by_cases e2 : 0 < ov
        · rw [if_pos e2]; exact ih _ _ _ _ _
        · rw [if_neg e2]; exact Int.le_refl _
      · intro o s
        by_cases e3 : b.testBit o = true
        · rw [if_pos e3]; exact ih _ _ _ _ (pSt i o s)
        · rw [if_neg e3]; exact Int.le_refl _
    · rw [if_neg e]; exact ih _ _ _ _ _
theorem fo_hit {g : Nat → Ps → Ps} {c : Int} (hg : ∀ o s, s.2.1.toInt ≤ (g o s).2.1.toInt) {o : Nat} (ho : ∀ s, c ≤ (g o s).2.1.toInt) : ∀ k i s, i ≤ o → o < i + k → c ≤ (fo g k i s).2.1.toInt := by
  intro k
  induction k with
  | zero => intro i s h1 h2; omega
  | succ k ih =>
    intro i s h1 h2
    by_cases e : i = o
    · subst e
      exact Int.le_trans (ho s) (fo_le hg k (i + 1) _)
    · exact ih (i + 1) _ (by omega) (by omega)
theorem two_bits : ∀ b, b < 64 → ∀ i, i < 6 → (b.testBit i = true ∧ popc b % 2 = 0) → ∃ o, o < 6 ∧ o ≠ i ∧ b.testBit o = true := by decide +kernel
theorem PG_leaf {h : Hs} (hO : HO h) (f : Rf) (z : Ss) : ∀ (k i b : Nat) (sum : Int32) (s : Ps), i + k = hm h → b < 2 ^ hm h → (∀ q, q < i → ¬ b.testBit q = true) → 0 ≤ sum.toInt → sum.toInt + 198 * popc b ≤ 2000 → 0 ≤ (PG h f z k i b (popc b % 2) sum s).2.1.toInt := by
  have h6 := hO.1
  intro k
  induction k with
  | zero =>
    intro i b sum s hi hb hl h0 h1
    rw [PG, pU]
    by_cases e : s.2.1 < sum
    · rw [if_pos e]; exact h0
    · rw [if_neg e]; rw [ti_lt] at e; omega
  | succ k ih =>
    intro i b sum s hi hb hl h0 h1
    have h64 := Nat.lt_of_lt_of_le hb (two_le h6)
    rw [PG]
    by_cases e : b.testBit i = true
    · rw [if_pos e]
      obtain ⟨x1, x2, x3⟩ := xr_on b h64 i (by omega)
      obtain ⟨x4, x5⟩ := x3 e
      have hbm2 : b ^^^ 2 ^ i < 2 ^ hm h := Nat.xor_lt_two_pow hb (pw_lt2 (by omega))
      have hl1 : ∀ q, q < i + 1 → ¬ (b ^^^ 2 ^ i).testBit q = true := by
        intro q hq hn
        rw [xr_tb b h64 i (by omega) q (by omega)] at hn
        by_cases eq : q = i
        · rw [if_pos eq] at hn; exact hn e
        · rw [if_neg eq] at hn; exact hl q (by omega) hn
      have hmono : ∀ o (s : Ps), s.2.1.toInt ≤ (if b.testBit o = true then pUn i o (PG h f z k (i + 1) (b ^^^ 2 ^ i ^^^ 2 ^ o) (popc b % 2) (sum + L2 h f z i o) (pSt i o s)) else s).2.1.toInt := by
        intro o s
        by_cases e3 : b.testBit o = true
        · rw [if_pos e3]; exact PG_mono h f z _ _ _ _ _ (pSt i o s)
        · rw [if_neg e3]; exact Int.le_refl _
      by_cases e2 : popc b % 2 = 1
      · refine Int.le_trans ?_ (fo_le hmono k (i + 1) _)
        rw [if_pos (by omega), show popc b % 2 - 1 = popc (b ^^^ 2 ^ i) % 2 by omega]
        exact ih (i + 1) (b ^^^ 2 ^ i) sum s (by omega) hbm2 hl1 h0 (by omega)
      · obtain ⟨o, ho, hoi, hob⟩ := two_bits b h64 i (by omega) ⟨e, by omega⟩
        have hom : o < hm h := tb_m hb hob
        have hio : i < o := by
          rcases Nat.lt_trichotomy o i with q | q | q
          · exact absurd hob (hl o q)
          · exact absurd q hoi
          · exact q
        refine fo_hit hmono (o := o) ?_ k (i + 1) _ (by omega) (by omega)
        intro s
        rw [if_pos hob]
        obtain ⟨y1, y2, y3⟩ := xr_on _ x2 o ho
        have xo := (xr_on2 b h64 i (by omega) o ho ⟨e, hob, hio⟩).2
        have q := qlif_2 hO f (show i < hm h by omega) hom (by omega) z
        have hsum : (sum + L2 h f z i o).toInt = sum.toInt + (L2 h f z i o).toInt := ti_add (by show _ ≤ sum.toInt + (qlif h f (2 ^ i ||| 2 ^ o) z).toInt; omega) (by show sum.toInt + (qlif h f (2 ^ i ||| 2 ^ o) z).toInt < _; omega)
        have hq' : 0 ≤ (L2 h f z i o).toInt ∧ (L2 h f z i o).toInt ≤ 198 := q
        have r := ih (i + 1) (b ^^^ 2 ^ i ^^^ 2 ^ o) (sum + L2 h f z i o) (pSt i o s) (by omega) (Nat.xor_lt_two_pow hbm2 (pw_lt2 hom)) (by
          intro q hq hn
          rw [xr_tb _ x2 o ho q (by omega), if_neg (by omega)] at hn
          exact hl1 q hq hn) (by rw [hsum]; omega) (by rw [hsum]; omega)
        rw [show popc (b ^^^ 2 ^ i ^^^ 2 ^ o) % 2 = popc b % 2 by omega] at r
        exact r
    · rw [if_neg e]
      exact ih (i + 1) b sum s (by omega) hb (fun q hq hn => by
        by_cases eq : q = i
        · subst eq; exact e hn
        · exact hl q (by omega) hn) h0 h1
