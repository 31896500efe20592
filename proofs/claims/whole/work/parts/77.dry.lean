/-! ===== how often somebody is dry: roomy, changed ===== -/
def dsN (h : Hs) (f : Rf) (l : List Nat) (rm : Int32) (b : Nat) (z : Ss) (i : Nat) : Ss × Nat := fo (fun _ a => (qz h f l rm b a.1, a.2 + popc (qT h f l rm b a.1).2)) i 0 (z, 0)
theorem dsN_s (h : Hs) (f : Rf) (l : List Nat) (rm : Int32) (b : Nat) (z : Ss) (i : Nat) : dsN h f l rm b z (i + 1) = (qz h f l rm b (dsN h f l rm b z i).1, (dsN h f l rm b z i).2 + popc (qT h f l rm b (dsN h f l rm b z i).1).2) := fo_s _ _ _ _
theorem dsN_le {h : Hs} (hO : HO h) (f : Rf) (g : Nat → Int32) (rm : Int32) (b : Nat) (z : Ss) : ∀ i, (dsN h f (ordL g (hm h)) rm b z i).2 ≤ 6 * i := by
  intro i
  induction i with
  | zero => exact Nat.le_refl _
  | succ i ih =>
    rw [dsN_s]
    have := popc_le _ (qT_lt hO f g rm b (dsN h f (ordL g (hm h)) rm b z i).1)
    show _ + _ ≤ _
    omega
theorem dsN_mono (h : Hs) (f : Rf) (l : List Nat) (rm : Int32) (b : Nat) (z : Ss) : ∀ k i, (dsN h f l rm b z i).2 ≤ (dsN h f l rm b z (i + k)).2 := by
  intro k
  induction k with
  | zero => intro i; exact Nat.le_refl _
  | succ k ih =>
    intro i
    have := ih i
    rw [← Nat.add_assoc, dsN_s]
    show _ ≤ _ + _
    omega
def cutz (z : Ss) (rm : Int32) : Ss := (z.1, ai_min z.2.1 rm, z.2.2.1, z.2.2.2)
/-- the class's count with a room, not told to its end beyond a bound -/
theorem X_dry {N : Nat} {V V0 : ai_V} {h : Hs} {f : Rf} {z : Ss} {rm r1 : Int32} {nw i n B : Nat} (K : KC V h f) (hS : IS N V h z rm) (F0 : Fr wC V V0) (hn : z.1 = on nw) (hb : nw < 2000000) (hi : i < hm h) (hk : n ≤ 60) (hB : B < 2147483648) :
    ∃ (d : Nat) (V' : ai_V), d_X_dryWithRoom r1 (on i) (on n) (on B) V0 = some (on d, V') ∧ Fr wC V V' ∧ (d = (dsN h f (lo h) r1 (2 ^ i) (cutz z r1) n).2 ∨ (B < d ∧ d ≤ (dsN h f (lo h) r1 (2 ^ i) (cutz z r1) n).2)) := by
  have hO := K.1
  have F1 : Fr wC V (si V0 19 2 r1) := Fr.si F0 rfl
  have Z0 : cS z (si V0 19 2 r1) 16 := hS.2.1.fr F1 rfl rfl rfl rfl
  obtain ⟨V1, e1, Z1, F2⟩ := bec_19_16 Z0 (rm := r1) (by rw [gi_si, if_pos ⟨rfl, rfl⟩])
  have t1 : tC V V1 (cutz z r1) r1 nw := ⟨Z1, by rw [F2.gi 19 2 rfl, gi_si, if_pos ⟨rfl, rfl⟩], hn, Fr.tr F1 F2 rfl⟩
  rw [d_X_dryWithRoom, e1, bd_some]
  have := loop_e (fun k (a : Int32) x V => d_X_dryWithRoom_25 k (on i) (on n) (on B) a x V) (fun c : Nat × ai_V => some (on c.1, c.2))
    (fun k a V' => tC V V' (dsN h f (lo h) r1 (2 ^ i) (cutz z r1) k).1 r1 (nw + k) ∧ a = on (dsN h f (lo h) r1 (2 ^ i) (cutz z r1) k).2)
    (fun c => Fr wC V c.2 ∧ (c.1 = (dsN h f (lo h) r1 (2 ^ i) (cutz z r1) n).2 ∨ (B < c.1 ∧ c.1 ≤ (dsN h f (lo h) r1 (2 ^ i) (cutz z r1) n).2))) n ?_ ?_ n 0 ai_N 0 V1 (by omega) (N_gt (by omega)) ⟨t1, rfl⟩
  · obtain ⟨c, e, q1, q2⟩ := this
    exact ⟨c.1, c.2, e, q1, q2⟩
  · rintro k a q V2 hq ⟨hP, rfl⟩
    have hle : (dsN h f (lo h) r1 (2 ^ i) (cutz z r1) q).2 ≤ 6 * q := dsN_le hO f (hst h) r1 (2 ^ i) (cutz z r1) q
    show (∃ a' V', d_X_dryWithRoom_25 (k + 1) (on i) (on n) (on B) _ (on q) V2 = _ ∧ _) ∨ (∃ c : Nat × ai_V, d_X_dryWithRoom_25 (k + 1) (on i) (on n) (on B) _ (on q) V2 = _ ∧ _)
    rw [d_X_dryWithRoom_25, if_neg (by rw [on_le (by omega) (by omega)]; omega)]
    by_cases e : B < (dsN h f (lo h) r1 (2 ^ i) (cutz z r1) q).2
    · right
      rw [if_pos (by rw [on_lt hB (by omega)]; exact e)]
      refine ⟨(_, V2), rfl, hP.2.2.2, Or.inr ⟨e, ?_⟩⟩
      have := dsN_mono h f (lo h) r1 (2 ^ i) (cutz z r1) (n - q) q
      rw [show q + (n - q) = n by omega] at this
      exact this
    · left
      obtain ⟨V3, e3, t3, -, -, -, b5⟩ := tC_step K hP (by omega) (pr_one hi)
      rw [if_neg (by rw [on_lt hB (by omega)]; exact e), e3, bd_some, b5, on_s, on_add]
      exact ⟨_, V3, rfl, by rw [dsN_s]; exact t3, by rw [dsN_s]⟩
  · rintro k a V2 ⟨hP, rfl⟩
    show ∃ c : Nat × ai_V, d_X_dryWithRoom_25 (k + 1) (on i) (on n) (on B) _ (on n) V2 = _ ∧ _
    rw [d_X_dryWithRoom_25, if_pos (Int32.le_refl _)]
    exact ⟨(_, V2), rfl, hP.2.2.2, Or.inl rfl⟩
/-- the model's count -/
theorem M_dry {N : Nat} {V V0 : ai_V} {h : Hs} {f : Rf} {g : Nat → Int32} {z : Ss} {r1 : Int32} {nw b n : Nat} {x : Int32} {w : Fw} (hO : HO h) (hM : MH V0 h) (hR : MR V0 f) (hG : SG V0 h g) (hz : mS z V0 90 0) (hn : z.1 = on nw) (hb : nw < 2000000) (hbm : b < 2 ^ hm h) (hx : (x = -1 ∧ b = 0) ∨ ∃ i, i < hm h ∧ x = on i ∧ b = 2 ^ i) (hk : n ≤ 60) :
    ∃ V', d_M_dryBy x (on n) r1 V0 = some (on (dsN h f (ordL g (hm h)) r1 b (cutz z r1) n).2, V') ∧ Fr wM V0 V' := by
  have h6 := hO.1
  obtain ⟨V1, e1, Z1, F1⟩ := laid_eq hz
  rw [d_M_dryBy, e1, bd_some, show ((12 : Int32)).toNatClampNeg = 12 from rfl]
  have z12 : ga V1 103 12 = z.2.1 := Z1.2.1
  rw [z12]
  have F2 : Fr wM V0 (sa V1 103 12 (ai_min z.2.1 r1)) := Fr.sa (Fr.tr Fr.rf F1 rfl) rfl
  have Z2 : mS (cutz z r1) (sa V1 103 12 (ai_min z.2.1 r1)) 103 0 := by
    obtain ⟨a1, a2, a3⟩ := Z1
    simp only [Nat.zero_add] at a1 a2 a3
    refine ⟨?_, ?_, fun k hk => ⟨?_, ?_⟩⟩
    · rw [Nat.zero_add, ga_sa, if_neg (by omega)]; exact a1
    · rw [Nat.zero_add, ga_sa, if_pos ⟨rfl, rfl⟩]; rfl
    · rw [Nat.zero_add, ga_sa, if_neg (by omega)]; exact (a3 k hk).1
    · rw [Nat.zero_add, ga_sa, if_neg (by omega)]; exact (a3 k hk).2
  have := loop_n (fun k (a : Int32) y V => d_M_dryBy_36 k x (on n) r1 a y V) (fun c : Int32 × ai_V => some c)
    (fun k a V' => tM V0 V' (dsN h f (ordL g (hm h)) r1 b (cutz z r1) k).1 (nw + k) ∧ a = on (dsN h f (ordL g (hm h)) r1 b (cutz z r1) k).2)
    (fun c => c.1 = on (dsN h f (ordL g (hm h)) r1 b (cutz z r1) n).2 ∧ Fr wM V0 c.2) n ?_ ?_ n 0 ai_N 0 _ (by omega) (N_gt (by omega)) ⟨⟨Z2, hn, F2⟩, rfl⟩
  · obtain ⟨⟨c1, c2⟩, e, q1, q2⟩ := this
    simp only at q1
    subst q1
    exact ⟨c2, e, q2⟩
  · rintro k a q V2 hq ⟨hP, rfl⟩
    show ∃ a' V', d_M_dryBy_36 (k + 1) x (on n) r1 _ (on q) V2 = _ ∧ _
    obtain ⟨V3, e3, a1, -, -, b5⟩ := goQ_103 (rm := r1) hO (hM.fr hP.2.2 rfl) (hR.fr hP.2.2 rfl) (hG.of (hP.2.2.gi 89 30 rfl) (hP.2.2.gi 89 31 rfl)) hbm hP.1 hP.2.1 (by omega)
    have F3 : Fr w_M_goQuarter_89_103 V2 V3 := fr_M_goQuarter_89_103 _ _ _ _ e3
    have t3 : tM V0 V3 (qz h f (ordL g (hm h)) r1 b (dsN h f (ordL g (hm h)) r1 b (cutz z r1) q).1) (nw + (q + 1)) := ⟨a1, by show _ + 1 = _; rw [hP.2.1, on_s]; rfl, Fr.tr hP.2.2 F3 rfl⟩
    have hq64 := qT_lt hO f g r1 b (dsN h f (ordL g (hm h)) r1 b (cutz z r1) q).1
    rw [d_M_dryBy_36, if_neg (by rw [on_le (by omega) (by omega)]; omega)]
    have fin : ∃ a' V', d_M_dryBy_59 (d_M_dryBy_36 k) x (on n) r1 (on (dsN h f (ordL g (hm h)) r1 b (cutz z r1) q).2) (on q) (on b) V2 = d_M_dryBy_36 k x (on n) r1 a' (on (q + 1)) V' ∧ tM V0 V' (dsN h f (ordL g (hm h)) r1 b (cutz z r1) (q + 1)).1 (nw + (q + 1)) ∧ a' = on (dsN h f (ordL g (hm h)) r1 b (cutz z r1) (q + 1)).2 := by
      rw [d_M_dryBy_59, e3, bd_some, b5, bitCount_on _ hq64, bd_some, on_s, on_add]
      exact ⟨_, V3, rfl, by rw [dsN_s]; exact t3, by rw [dsN_s]⟩
    rcases hx with ⟨rfl, rfl⟩ | ⟨i, hi, rfl, rfl⟩
    · rw [if_neg (fun hn => hn rfl)]; exact fin
    · rw [if_pos (on_ne_m1 (by omega)), sh_on (by omega)]; exact fin
  · rintro k a V2 ⟨hP, rfl⟩
    show ∃ c : Int32 × ai_V, d_M_dryBy_36 (k + 1) x (on n) r1 _ (on n) V2 = _ ∧ _
    rw [d_M_dryBy_36, if_pos (Int32.le_refl _)]
    exact ⟨(_, V2), rfl, rfl, hP.2.2⟩
theorem isMore_on {n : Nat} (h1 : 1 ≤ n) (h2 : n ≤ 60) (V : ai_V) : d_M_isMore (on n) V = some 1 := by
  rw [isMore_eq, tf_pos]
  rw [one_on, show (60 : Int32) = on 60 from rfl, on_le (by omega) (by omega), on_le (by omega) (by omega)]
  exact ⟨h1, h2⟩
/-! roomy -/
theorem X_roomy {N : Nat} {V : ai_V} {h : Hs} {f : Rf} {z : Ss} {rm : Int32} {nw i n : Nat} (K : KC V h f) (hS : IS N V h z rm) (hn : z.1 = on nw) (hb : nw < 2000000) (hi : i < hm h) (h1 : 1 ≤ n) (hk : n ≤ 60) :
    ∃ (s : Nat) (V' : ai_V), d_X_roomy (on i) (on n) V = some (on s, V') ∧ cRow V' [(on (dsN h f (lo h) (on s) (2 ^ i) (cutz z (on s)) n).2).toInt64] ∧ s ≤ 999 ∧ 1 ≤ s ∧ (dsN h f (lo h) (on s) (2 ^ i) (cutz z (on s)) n).2 ≤ (dsN h f (lo h) (on 999) (2 ^ i) (cutz z (on 999)) n).2 ∧ ∀ j, 1 ≤ j → j < s → (dsN h f (lo h) (on 999) (2 ^ i) (cutz z (on 999)) n).2 < (dsN h f (lo h) (on j) (2 ^ i) (cutz z (on j)) n).2 := by
  have hle : ∀ r, (dsN h f (lo h) r (2 ^ i) (cutz z r) n).2 ≤ 6 * n := fun r => dsN_le K.1 f (hst h) r (2 ^ i) (cutz z r) n
  obtain ⟨d0, V1, e1, F1, q1⟩ := X_dry (r1 := on 999) (B := 2147483647) K hS Fr.rf hn hb hi hk (by omega)
  have q1' : d0 = (dsN h f (lo h) (on 999) (2 ^ i) (cutz z (on 999)) n).2 := by
    rcases q1 with q | ⟨q, q'⟩
    · exact q
    · have := hle (on 999); omega
  subst q1'
  have hM9 := hle (on 999)
  generalize hM : (dsN h f (lo h) (on 999) (2 ^ i) (cutz z (on 999)) n).2 = M at *
  obtain ⟨d1, V2, e2, F2, q2⟩ := X_dry (r1 := on 1) (B := M) K hS F1 hn hb hi hk (by omega)
  rw [d_X_roomy, has_eq K.2.1, bd_some, if_neg (by rw [tf_pos (on_has K.1 hi)]; decide), one_on, if_neg (by rw [on_lt (by omega) (by omega)]; omega), show (60 : Int32) = on 60 from rfl, if_pos (by rw [on_le (by omega) (by omega)]; omega)]
  show ∃ (s : Nat) (V' : ai_V), ((d_X_dryWithRoom (on 999) (on i) (on n) (on 2147483647) V).bind _) = _ ∧ _
  rw [e1, bd_some]
  show ∃ (s : Nat) (V' : ai_V), ((d_X_dryWithRoom (on 1) (on i) (on n) (on M) V1).bind _) = _ ∧ _
  rw [e2, bd_some]
  have := loop_e (fun k (a : Nat) x V => d_X_roomy_51 k (on i) (on n) (on M) x (on a) V) (fun c : Nat × ai_V => some (on c.1, c.2))
    (fun s d V' => Fr wC V V' ∧ 1 ≤ s ∧ (d = (dsN h f (lo h) (on s) (2 ^ i) (cutz z (on s)) n).2 ∨ (M < d ∧ d ≤ (dsN h f (lo h) (on s) (2 ^ i) (cutz z (on s)) n).2)) ∧ ∀ j, 1 ≤ j → j < s → M < (dsN h f (lo h) (on j) (2 ^ i) (cutz z (on j)) n).2)
    (fun c => cRow c.2 [(on (dsN h f (lo h) (on c.1) (2 ^ i) (cutz z (on c.1)) n).2).toInt64] ∧ c.1 ≤ 999 ∧ 1 ≤ c.1 ∧ (dsN h f (lo h) (on c.1) (2 ^ i) (cutz z (on c.1)) n).2 ≤ M ∧ ∀ j, 1 ≤ j → j < c.1 → M < (dsN h f (lo h) (on j) (2 ^ i) (cutz z (on j)) n).2) 999 ?_ ?_ 998 1 ai_N d1 V2 (by omega) (N_gt (by omega)) ⟨F2, by omega, q2, fun j h1 h2 => absurd h2 (by omega)⟩
  · obtain ⟨c, e, q⟩ := this
    exact ⟨c.1, c.2, e, q⟩
  · rintro k d s V3 hs ⟨F3, s1, q3, q4⟩
    have hls := hle (on s)
    have hd : d ≤ 360 := by rcases q3 with q | ⟨_, q⟩ <;> omega
    show (∃ (a' : Nat) (V' : ai_V), d_X_roomy_51 (k + 1) (on i) (on n) (on M) (on s) (on d) V3 = _ ∧ _) ∨ (∃ c : Nat × ai_V, d_X_roomy_51 (k + 1) (on i) (on n) (on M) (on s) (on d) V3 = _ ∧ _)
    rw [d_X_roomy_51, show (999 : Int32) = on 999 from rfl, if_neg (by rw [on_le (by omega) (by omega)]; omega)]
    by_cases e : d ≤ M
    · right
      have hdd : d = (dsN h f (lo h) (on s) (2 ^ i) (cutz z (on s)) n).2 := by rcases q3 with q | ⟨q, _⟩ <;> omega
      obtain ⟨V4, e4, c4, F4⟩ := tell1 (on d).toInt64 V3
      rw [if_pos (by rw [on_le (by omega) (by omega)]; exact e), d_X_roomy_82, e4, bd_some]
      refine ⟨(s, V4), rfl, ?_, (by show s ≤ 999; omega), s1, (by show (dsN h f (lo h) (on s) (2 ^ i) (cutz z (on s)) n).2 ≤ M; omega), q4⟩
      rw [← hdd]; exact c4
    · left
      obtain ⟨d2, V4, e4, F4, q5⟩ := X_dry (r1 := on (s + 1)) (B := M) K hS F3 hn hb hi hk (by omega)
      rw [if_neg (by rw [on_le (by omega) (by omega)]; exact e), on_s, e4, bd_some]
      refine ⟨d2, V4, rfl, F4, by omega, q5, ?_⟩
      intro j j1 j2
      by_cases ej : j = s
      · subst ej
        rcases q3 with q | ⟨_, q⟩ <;> omega
      · exact q4 j j1 (by omega)
  · rintro k d V3 ⟨F3, s1, q3, q4⟩
    rw [hM] at q3
    have hdd : d = M := by rcases q3 with q | ⟨q, q'⟩ <;> omega
    subst hdd
    obtain ⟨V4, e4, c4, F4⟩ := tell1 (on d).toInt64 V3
    show ∃ c : Nat × ai_V, d_X_roomy_51 (k + 1) (on i) (on n) (on d) (on 999) (on d) V3 = _ ∧ _
    rw [d_X_roomy_51, if_pos (by decide), d_X_roomy_82, e4, bd_some]
    refine ⟨(999, V4), rfl, ?_, Nat.le_refl _, (by show 1 ≤ 999; omega), Nat.le_of_eq hM, q4⟩
    rw [hM]; exact c4
theorem M_roomy {V : ai_V} {h : Hs} {f : Rf} {z : Ss} {nw i n : Nat} (K : KM V h f) (hz : mS z V 90 0) (hn : z.1 = on nw) (hb : nw < 2000000) (hi : i < hm h) (h1 : 1 ≤ n) (hk : n ≤ 60) :
    ∃ (s : Nat) (V' : ai_V), d_M_roomy (on i) (on n) V = some (on s, V') ∧ mRow V' [(on (dsN h f (lo h) (on s) (2 ^ i) (cutz z (on s)) n).2).toInt64] ∧ s ≤ 999 ∧ 1 ≤ s ∧ (dsN h f (lo h) (on s) (2 ^ i) (cutz z (on s)) n).2 ≤ (dsN h f (lo h) (on 999) (2 ^ i) (cutz z (on 999)) n).2 ∧ ∀ j, 1 ≤ j → j < s → (dsN h f (lo h) (on 999) (2 ^ i) (cutz z (on 999)) n).2 < (dsN h f (lo h) (on j) (2 ^ i) (cutz z (on j)) n).2 := by
  have h6 := K.1.1
  have hle : ∀ r, (dsN h f (lo h) r (2 ^ i) (cutz z r) n).2 ≤ 6 * n := fun r => dsN_le K.1 f (hst h) r (2 ^ i) (cutz z r) n
  have dry : ∀ V0, Fr wM V V0 → ∀ r1, ∃ V', d_M_dryBy (on i) (on n) r1 V0 = some (on (dsN h f (lo h) r1 (2 ^ i) (cutz z r1) n).2, V') ∧ Fr wM V V' := by
    intro V0 F0 r1
    have K0 := K.fr F0 rfl
    obtain ⟨V', e, F'⟩ := M_dry (N := 0) (V := V) (r1 := r1) (w := wM) K0.1 K0.2.1 K0.2.2.1 K0.2.2.2 (hz.fr F0 rfl) hn hb (pw_lt2 hi) (Or.inr ⟨i, hi, rfl, rfl⟩) hk
    exact ⟨V', e, Fr.tr F0 F' rfl⟩
  obtain ⟨V1, e1, F1⟩ := dry (si V 89 14 0) (Fr.si Fr.rf rfl) (on 999)
  rw [d_M_roomy, isOne_eq K.1 (K.s14 0).2.1, bd_some, if_neg (by rw [tf_pos (on_has K.1 hi)]; decide), isMore_on h1 hk, bd_some, if_pos (by decide)]
  show ∃ (s : Nat) (V' : ai_V), ((d_M_dryBy (on i) (on n) (on 999) (si V 89 14 0)).bind _) = _ ∧ _
  have hM9 := hle (on 999)
  rw [e1, bd_some]
  generalize hM : (dsN h f (lo h) (on 999) (2 ^ i) (cutz z (on 999)) n).2 = M at *
  have := loop_e (fun k (_ : Unit) x V => d_M_roomy_35 k (on i) (on n) (on M) x V) (fun c : Nat × ai_V => some (on c.1, c.2))
    (fun s _ V' => Fr wM V V' ∧ 1 ≤ s ∧ (∀ j, 1 ≤ j → j < s → M < (dsN h f (lo h) (on j) (2 ^ i) (cutz z (on j)) n).2))
    (fun c => mRow c.2 [(on (dsN h f (lo h) (on c.1) (2 ^ i) (cutz z (on c.1)) n).2).toInt64] ∧ c.1 ≤ 999 ∧ 1 ≤ c.1 ∧ (dsN h f (lo h) (on c.1) (2 ^ i) (cutz z (on c.1)) n).2 ≤ M ∧ ∀ j, 1 ≤ j → j < c.1 → M < (dsN h f (lo h) (on j) (2 ^ i) (cutz z (on j)) n).2) 1000 ?_ ?_ 999 1 ai_N () V1 (by omega) (N_gt (by omega)) ⟨F1, by omega, fun j h1 h2 => absurd h2 (by omega)⟩
  · obtain ⟨c, e, q⟩ := this
    exact ⟨c.1, c.2, e, q⟩
  · rintro k _ s V3 hs ⟨F3, s1, q4⟩
    have hls := hle (on s)
    obtain ⟨V4, e4, F4⟩ := dry V3 F3 (on s)
    show (∃ (a' : Unit) (V' : ai_V), d_M_roomy_35 (k + 1) (on i) (on n) (on M) (on s) V3 = _ ∧ _) ∨ (∃ c : Nat × ai_V, d_M_roomy_35 (k + 1) (on i) (on n) (on M) (on s) V3 = _ ∧ _)
    rw [d_M_roomy_35, e4, bd_some]
    simp only
    by_cases e : (dsN h f (lo h) (on s) (2 ^ i) (cutz z (on s)) n).2 ≤ M
    · right
      have K5 : KM (si V4 89 13 0) h f := (K.fr F4 rfl).fr (w := ([(89, 13)], [])) (Fr.si Fr.rf rfl) rfl
      obtain ⟨V5, e5, F5⟩ := M_dry (N := 0) (V := V) (V0 := si V4 89 13 0) (r1 := on s) (w := wM) K5.1 K5.2.1 K5.2.2.1 K5.2.2.2 ((hz.fr F4 rfl).fr (w := ([(89, 13)], [])) (Fr.si Fr.rf rfl) rfl) hn hb (pw_lt2 hi) (Or.inr ⟨i, hi, rfl, rfl⟩) hk
      have R5 : mRow V5 [] := (m_row0 V4).fr F5 rfl
      obtain ⟨V6, e6, c6, -⟩ := m_tell R5 (by simp) (on (dsN h f (lo h) (on s) (2 ^ i) (cutz z (on s)) n).2).toInt64
      rw [if_pos (by rw [on_le (by omega) (by omega)]; exact e), e5, bd_some]
      show ∃ c : Nat × ai_V, ((d_M_tell (on (dsN h f (lo h) (on s) (2 ^ i) (cutz z (on s)) n).2).toInt64 V5).bind _) = _ ∧ _
      rw [e6, bd_some]
      refine ⟨(s, V6), rfl, c6, ?_, s1, e, q4⟩
      show s ≤ 999
      omega
    · left
      rw [if_neg (by rw [on_le (by omega) (by omega)]; exact e), on_s]
      refine ⟨(), V4, rfl, F4, by omega, ?_⟩
      intro j j1 j2
      by_cases ej : j = s
      · subst ej; omega
      · exact q4 j j1 (by omega)
  · rintro k _ V3 ⟨F3, s1, q4⟩
    have := q4 999 (by omega) (by omega)
    rw [hM] at this
    exact absurd this (Nat.lt_irrefl _)
theorem st_roomy {N : Nat} {V : ai_V} (hI : Inv N V) (hN : N < 512) (x v : Int32) : Step N V (d_X_roomy x v) (d_M_roomy x v) := by
  obtain ⟨h, f, z, rm, nw, kc, km, hS, hn, hb⟩ := hI.k
  rcases hasX kc.1 x with ⟨i, hi, rfl⟩ | hx
  · by_cases hv : 1 ≤ v ∧ v ≤ 60
    · obtain ⟨k, rfl, k1, k2⟩ := rng v 1 60 (by omega) (by omega) hv
      obtain ⟨s, V1, e1, c1, s1, s2, s3, s4⟩ := X_roomy kc hS hn (by omega) hi k1 k2
      have F1 : Fr w_X_roomy V V1 := fr_X_roomy _ _ _ _ e1
      obtain ⟨s', V2, e2, c2, t1, t2, t3, t4⟩ := M_roomy (km.fr F1 rfl) (hS.2.2.1.fr F1 rfl) hn (by omega) hi k1 k2
      have F2 : Fr w_M_roomy V1 V2 := fr_M_roomy _ _ _ _ e2
      have es : s = s' := by
        rcases Nat.lt_trichotomy s s' with q | q | q
        · have := t4 s s2 q; omega
        · exact q
        · have := s4 s' t2 q; omega
      subst es
      exact ⟨_, V1, V2, e1, e2, hI.qq F1 F2 rfl rfl rfl rfl (o := some _) (fun r hr => by obtain rfl := Option.some.inj hr; simp) c1 c2 (hI.x.fr2 F1 F2 rfl rfl)⟩
    · refine ⟨-1, V, si V 89 14 0, ?_, ?_, hI.no 0⟩
      · rw [d_X_roomy, has_eq kc.2.1, bd_some, if_neg (by rw [tf_pos (on_has kc.1 hi)]; decide)]
        by_cases e : v < 1
        · rw [if_pos e]
        · rw [if_neg e, if_neg (fun e2 => hv ⟨nlt.mp e, e2⟩)]
      · rw [d_M_roomy, isOne_eq km.1 (km.s14 0).2.1, bd_some, if_neg (by rw [tf_pos (on_has km.1 hi)]; decide), isMore_eq, bd_some, if_neg (fun hn => hn (tf_neg hv))]
  · refine ⟨-1, V, si V 89 14 0, ?_, ?_, hI.no 0⟩
    · rw [d_X_roomy, has_eq kc.2.1, bd_some, if_pos (tf_neg hx)]
    · rw [d_M_roomy, isOne_eq km.1 (km.s14 0).2.1, bd_some, if_pos (tf_neg hx)]
/-! changed -/
/-- with nobody on the wheel wants alone are taken -/
theorem q0_T {h : Hs} (hO : HO h) (f : Rf) (g : Nat → Int32) {rm : Int32} {z : Ss} {nw : Nat} (hn : z.1 = on nw) (hnw : nw < 2147483648) (h0 : 0 ≤ z.2.1.toInt) (h1 : z.2.1.toInt ≤ rm.toInt) : qT h f (ordL g (hm h)) rm 0 z = tk h (nw % 12) (ordL g (hm h)) (z.2.1, 0) := by
  have hl : qlif h f 0 z = 0 := LA_0 h f _ _ _
  have ho : qovr h f rm 0 z = 0 := by
    unfold qovr
    rw [hl, Int32.add_zero, ti_eq, ai_max_ti]
    have e0 : (0 : Int32).toInt = 0 := rfl
    have := ti_lo rm
    have := ti_hi rm
    have := ti_hi z.2.1
    rw [e0, ti_sub (by omega) (by omega)]
    omega
  unfold qT
  rw [hl, ho, hn, on_nn hnw]
  simp
theorem X_chg_9 {N : Nat} {V0 : ai_V} {h : Hs} {f : Rf} {g : Nat → Int32} {z : Ss} {rm : Int32} {nw n : Nat} (hO : HO h) (hC : CH V0 h) (hl : CO V0 9 (ordL g (hm h))) (hg : ∀ i, i < hm h → 0 ≤ (g i).toInt ∧ (g i).toInt ≤ 5) (hS : IS N V0 h z rm) (hn : z.1 = on nw) (hb : nw < 2000000) (hk : n ≤ 60) :
    ∃ V', d_X_dryByOrder (on n) V0 = some (on (dsN h f (ordL g (hm h)) rm 0 (cutz z rm) n).2, V') ∧ Fr wC V0 V' := by
  obtain ⟨V1, e1, a1, a2, a3⟩ := asked_eq hS
  have hcz : cutz z rm = z := by
    have := hS.2.2.2.2.2.2.2
    unfold cutz ai_min
    rw [if_neg (by rw [ti_lt]; omega)]
  rw [hcz, d_X_dryByOrder, e1, bd_some]
  have := loop_n (fun k (a : Int32) y V => d_X_dryByOrder_11 k (on n) a y V) (fun c : Int32 × ai_V => some c)
    (fun k a V' => gi V' 19 0 = on (nw + k) ∧ gi V' 19 1 = (dsN h f (ordL g (hm h)) rm 0 z k).1.2.1 ∧ (dsN h f (ordL g (hm h)) rm 0 z k).1.1 = on (nw + k) ∧ 0 ≤ (dsN h f (ordL g (hm h)) rm 0 z k).1.2.1.toInt ∧ (dsN h f (ordL g (hm h)) rm 0 z k).1.2.1.toInt ≤ rm.toInt ∧ a = on (dsN h f (ordL g (hm h)) rm 0 z k).2 ∧ Fr wC V0 V')
    (fun c => c.1 = on (dsN h f (ordL g (hm h)) rm 0 z n).2 ∧ Fr wC V0 c.2) n ?_ ?_ n 0 ai_N 0 V1 (by omega) (N_gt (by omega)) ⟨by rw [a1.1, hn]; rfl, a1.2.1, hn, hS.1.2.1.1, hS.2.2.2.2.2.2.2, rfl, Fr.tr Fr.rf a3 rfl⟩
  · obtain ⟨⟨c1, c2⟩, e, q1, q2⟩ := this
    simp only at q1
    subst q1
    exact ⟨c2, e, q2⟩
  · rintro k a q V2 hq ⟨p1, p2, p3, p4, p5, rfl, hF⟩
    show ∃ a' V', d_X_dryByOrder_11 (k + 1) (on n) _ (on q) V2 = _ ∧ _
    obtain ⟨V3, e3, t1, t2, t3, t4⟩ := take_19 hO (hC.fr hF rfl) (hl.fr hF rfl) (ordL_len hg) (ordL_nd _ _) (fun j hj => ordL_mem hj) p1 (by omega)
    have F3 : Fr w_Wheel_take_15_19_9 V2 V3 := fr_Wheel_take_15_19_9 _ _ e3
    have hT := q0_T hO f g p3 (by omega) p4 p5
    rw [p2, ← hT] at t1 t3
    have hlv := tk_level hO (q := (nw + q) % 12) (ordL g (hm h)) ((dsN h f (ordL g (hm h)) rm 0 z q).1.2.1, 0) (fun j hj => ordL_mem hj) p4
    rw [← hT] at hlv
    rw [d_X_dryByOrder_11, if_neg (by rw [on_le (by omega) (by omega)]; omega), e3, bd_some, gi_si, if_neg (by decide), t3, on_add, on_s, F3.gi 19 0 rfl, p1, on_s]
    refine ⟨_, _, rfl, ?_, ?_, ?_, ?_, ?_, ?_, Fr.si (Fr.tr hF F3 rfl) rfl⟩
    · rw [gi_si, if_pos ⟨rfl, rfl⟩]; rfl
    · rw [gi_si, if_neg (by decide), t1, dsN_s]; rfl
    · rw [dsN_s]
      show (dsN h f (ordL g (hm h)) rm 0 z q).1.1 + 1 = _
      rw [p3, on_s]; rfl
    · rw [dsN_s]; exact hlv.1
    · rw [dsN_s]; exact Int.le_trans hlv.2 p5
    · rw [dsN_s]
  · rintro k a V2 ⟨p1, p2, p3, p4, p5, rfl, hF⟩
    show ∃ c : Int32 × ai_V, d_X_dryByOrder_11 (k + 1) (on n) _ (on n) V2 = _ ∧ _
    rw [d_X_dryByOrder_11, if_pos (Int32.le_refl _)]
    exact ⟨(_, V2), rfl, rfl, hF⟩
theorem X_chg_82 {N : Nat} {V0 : ai_V} {h : Hs} {f : Rf} {g : Nat → Int32} {z : Ss} {rm : Int32} {nw n : Nat} (hO : HO h) (hC : CH V0 h) (hl : CO V0 82 (ordL g (hm h))) (hg : ∀ i, i < hm h → 0 ≤ (g i).toInt ∧ (g i).toInt ≤ 5) (hS : IS N V0 h z rm) (hn : z.1 = on nw) (hb : nw < 2000000) (hk : n ≤ 60) :
    ∃ V', d_X_dryByOrder_0_82 (on n) V0 = some (on (dsN h f (ordL g (hm h)) rm 0 (cutz z rm) n).2, V') ∧ Fr wC V0 V' := by
  obtain ⟨V1, e1, a1, a2, a3⟩ := asked_eq hS
  have hcz : cutz z rm = z := by
    have := hS.2.2.2.2.2.2.2
    unfold cutz ai_min
    rw [if_neg (by rw [ti_lt]; omega)]
  rw [hcz, d_X_dryByOrder_0_82, e1, bd_some]
  have := loop_n (fun k (a : Int32) y V => d_X_dryByOrder_0_82_11 k (on n) a y V) (fun c : Int32 × ai_V => some c)
    (fun k a V' => gi V' 19 0 = on (nw + k) ∧ gi V' 19 1 = (dsN h f (ordL g (hm h)) rm 0 z k).1.2.1 ∧ (dsN h f (ordL g (hm h)) rm 0 z k).1.1 = on (nw + k) ∧ 0 ≤ (dsN h f (ordL g (hm h)) rm 0 z k).1.2.1.toInt ∧ (dsN h f (ordL g (hm h)) rm 0 z k).1.2.1.toInt ≤ rm.toInt ∧ a = on (dsN h f (ordL g (hm h)) rm 0 z k).2 ∧ Fr wC V0 V')
    (fun c => c.1 = on (dsN h f (ordL g (hm h)) rm 0 z n).2 ∧ Fr wC V0 c.2) n ?_ ?_ n 0 ai_N 0 V1 (by omega) (N_gt (by omega)) ⟨by rw [a1.1, hn]; rfl, a1.2.1, hn, hS.1.2.1.1, hS.2.2.2.2.2.2.2, rfl, Fr.tr Fr.rf a3 rfl⟩
  · obtain ⟨⟨c1, c2⟩, e, q1, q2⟩ := this
    simp only at q1
    subst q1
    exact ⟨c2, e, q2⟩
  · rintro k a q V2 hq ⟨p1, p2, p3, p4, p5, rfl, hF⟩
    show ∃ a' V', d_X_dryByOrder_0_82_11 (k + 1) (on n) _ (on q) V2 = _ ∧ _
    obtain ⟨V3, e3, t1, t2, t3, t4⟩ := take_82 hO (hC.fr hF rfl) (hl.fr hF rfl) (ordL_len hg) (ordL_nd _ _) (fun j hj => ordL_mem hj) p1 (by omega)
    have F3 : Fr w_Wheel_take_15_19_82 V2 V3 := fr_Wheel_take_15_19_82 _ _ e3
    have hT := q0_T hO f g p3 (by omega) p4 p5
    rw [p2, ← hT] at t1 t3
    have hlv := tk_level hO (q := (nw + q) % 12) (ordL g (hm h)) ((dsN h f (ordL g (hm h)) rm 0 z q).1.2.1, 0) (fun j hj => ordL_mem hj) p4
    rw [← hT] at hlv
    rw [d_X_dryByOrder_0_82_11, if_neg (by rw [on_le (by omega) (by omega)]; omega), e3, bd_some, gi_si, if_neg (by decide), t3, on_add, on_s, F3.gi 19 0 rfl, p1, on_s]
    refine ⟨_, _, rfl, ?_, ?_, ?_, ?_, ?_, ?_, Fr.si (Fr.tr hF F3 rfl) rfl⟩
    · rw [gi_si, if_pos ⟨rfl, rfl⟩]; rfl
    · rw [gi_si, if_neg (by decide), t1, dsN_s]; rfl
    · rw [dsN_s]
      show (dsN h f (ordL g (hm h)) rm 0 z q).1.1 + 1 = _
      rw [p3, on_s]; rfl
    · rw [dsN_s]; exact hlv.1
    · rw [dsN_s]; exact Int.le_trans hlv.2 p5
    · rw [dsN_s]
  · rintro k a V2 ⟨p1, p2, p3, p4, p5, rfl, hF⟩
    show ∃ c : Int32 × ai_V, d_X_dryByOrder_0_82_11 (k + 1) (on n) _ (on n) V2 = _ ∧ _
    rw [d_X_dryByOrder_0_82_11, if_pos (Int32.le_refl _)]
    exact ⟨(_, V2), rfl, rfl, hF⟩
theorem areTwo_eq {V : ai_V} {h : Hs} (hO : HO h) (hM : MH V h) (x y : Int32) : d_M_areTwo x y V = some (tf ((0 ≤ x ∧ x < on (hm h)) ∧ (0 ≤ y ∧ y < on (hm h)) ∧ x ≠ y)) := by
  rw [d_M_areTwo, isOne_eq hO hM, bd_some]
  by_cases h1 : 0 ≤ x ∧ x < on (hm h)
  · rw [if_neg (by rw [tf_pos h1]; decide), isOne_eq hO hM, bd_some]
    by_cases h2 : 0 ≤ y ∧ y < on (hm h)
    · rw [if_neg (by rw [tf_pos h2]; decide)]
      by_cases h3 : x = y
      · rw [if_pos h3, tf_neg (fun hc => hc.2.2 h3)]
      · rw [if_neg h3, tf_pos ⟨h1, h2, h3⟩]
    · rw [if_pos (tf_neg h2), tf_neg (fun hc => h2 hc.2.1)]
  · rw [if_pos (tf_neg h1), tf_neg (fun hc => h1 hc.1)]
theorem st_changed {N : Nat} {V : ai_V} (hI : Inv N V) (hN : N < 512) (x y v : Int32) : Step N V (d_X_changed x y v) (d_M_changed x y v) := by
  obtain ⟨h, f, z, rm, nw, kc, km, hS, hn, hb⟩ := hI.k
  have hO := kc.1
  have h6 := hO.1
  by_cases hxy : (0 ≤ x ∧ x < on (hm h)) ∧ (0 ≤ y ∧ y < on (hm h)) ∧ x ≠ y
  · obtain ⟨hx, hy, hne⟩ := hxy
    obtain ⟨i, hi, rfl⟩ := has_on hO hx
    obtain ⟨j, hj, rfl⟩ := has_on hO hy
    have hij : i ≠ j := fun e => hne (e ▸ rfl)
    by_cases hv : 1 ≤ v ∧ v ≤ 60
    · obtain ⟨k, rfl, k1, k2⟩ := rng v 1 60 (by omega) (by omega) hv
      have hg : ∀ a, a < hm h → 0 ≤ (hst h a).toInt ∧ (hst h a).toInt ≤ 5 := fun a ha => (hO.2.2 a ha).1
      have hg2 : ∀ a, a < hm h → 0 ≤ (swp (hst h) i j a).toInt ∧ (swp (hst h) i j a).toInt ≤ 5 := by
        intro a ha
        unfold swp
        by_cases e1 : a = i
        · rw [if_pos e1]; exact hg j hj
        · rw [if_neg e1]
          by_cases e2 : a = j
          · rw [if_pos e2]; exact hg i hi
          · rw [if_neg e2]; exact hg a ha
      obtain ⟨Va, ea, Fa⟩ := X_chg_9 (f := f) hO kc.2.1 kc.2.2.2 hg hS hn (by omega) k2
      obtain ⟨Vb, eb, Ob, Fb⟩ := order_82 (V := Va) (x2 := on i) (x3 := on j) (g := swp (hst h) i j) (s := fun a => if a = i then j else if a = j then i else a) (by rw [Fa.gi 3 0 rfl]; exact kc.2.1.1) h6 (by
        intro a ha
        have hst4 : ga Va 4 = hst h := by rw [Fa.ga 4 rfl]; exact kc.2.1.2.2.2.1
        rw [on_inj (by omega) (by omega), on_inj (by omega) (by omega), hst4]
        unfold swp
        by_cases e1 : a = i
        · simp [e1]; omega
        · by_cases e2 : a = j
          · simp [e1, e2, Ne.symm hij]; omega
          · simp [e1, e2]; omega) hg2
      have Fab : Fr ([(15, 2), (15, 3), (15, 4), (15, 5), (19, 0), (19, 1), (19, 2)], [12, 13, 20, 21, 82]) V Vb := Fr.tr (Fr.tr Fr.rf Fa rfl) Fb rfl
      have Sb : IS N Vb h z rm := hS.sm (Sm.of Fab rfl) (Nat.le_refl _)
      obtain ⟨Vc, ec, Fc⟩ := X_chg_82 (f := f) hO (kc.2.1.fr Fab rfl) Ob hg2 Sb hn (by omega) k2
      obtain ⟨Vd, ed, cd, Fd⟩ := tell2 (on (dsN h f (ordL (hst h) (hm h)) rm 0 (cutz z rm) k).2).toInt64 (on (dsN h f (ordL (swp (hst h) i j) (hm h)) rm 0 (cutz z rm) k).2).toInt64 Vc
      have e1 : d_X_changed (on i) (on j) (on k) V = some (on (dsN h f (ordL (swp (hst h) i j) (hm h)) rm 0 (cutz z rm) k).2 - on (dsN h f (ordL (hst h) (hm h)) rm 0 (cutz z rm) k).2, Vd) := by
        rw [d_X_changed, has_eq kc.2.1, bd_some, if_neg (by rw [tf_pos hx]; decide), has_eq kc.2.1, bd_some, if_neg (by rw [tf_pos hy]; decide), if_neg hne, if_neg (nlt.mpr hv.1), if_pos hv.2, ea, bd_some]
        show ((d_House_orderInto_3_82 (on i) (on j) Va).bind _) = _
        rw [eb, bd_some, ec, bd_some]
        show ((d_Row_tellTwo _ _ Vc).bind _) = _
        rw [ed]; rfl
      have F1 : Fr w_X_changed V Vd := fr_X_changed _ _ _ _ _ e1
      have K1 := km.fr F1 rfl
      have K1' := K1.s14 0
      have z1 : mS z Vd 90 0 := hS.2.2.1.fr F1 rfl
      have r1 : gi Vd 89 8 = rm := by rw [F1.gi 89 8 rfl]; exact hS.2.2.2.2.1
      obtain ⟨We, ee, Fe⟩ := M_dry (N := N) (V := V) (r1 := rm) (x := -1) (w := wM) hO K1'.2.1 K1'.2.2.1 K1'.2.2.2 (z1.fr (w := ([(89, 14)], [])) (Fr.si Fr.rf rfl) rfl) hn (by omega) (pw_pos _) (Or.inl ⟨rfl, rfl⟩) k2
      have Fe' : Fr ([(89, 14), (89, 15), (89, 16), (89, 17), (89, 18), (89, 19), (89, 23), (89, 24), (89, 25), (89, 26), (89, 27), (89, 28), (89, 29), (89, 30), (89, 31), (89, 32), (89, 33)], [103]) Vd (si (si We 89 30 (on i)) 89 31 (on j)) := Fr.si (Fr.si (Fr.tr (Fr.si Fr.rf rfl) Fe rfl) rfl) rfl
      have M2 : MH (si (si We 89 30 (on i)) 89 31 (on j)) h := K1.2.1.fr Fe' rfl
      have R2 : MR (si (si We 89 30 (on i)) 89 31 (on j)) f := K1.2.2.1.fr Fe' rfl
      have G2 : SG (si (si We 89 30 (on i)) 89 31 (on j)) h (swp (hst h) i j) := storey_sw hO hi hj (by rw [gi_si, if_neg (by decide), gi_si, if_pos ⟨rfl, rfl⟩]) (by rw [gi_si, if_pos ⟨rfl, rfl⟩])
      obtain ⟨Wf, ef, Ff⟩ := M_dry (N := N) (V := V) (r1 := rm) (x := -1) (w := wM) hO M2 R2 G2 (z1.fr Fe' rfl) hn (by omega) (pw_pos _) (Or.inl ⟨rfl, rfl⟩) k2
      obtain ⟨Wg, eg, cg, Fg⟩ := m_tell (m_row0 (si (si Wf 89 30 (-1)) 89 31 (-1))) (by simp) (on (dsN h f (ordL (hst h) (hm h)) rm 0 (cutz z rm) k).2).toInt64
      obtain ⟨Wh, eh, ch, Fh⟩ := m_tell cg (by simp) (on (dsN h f (ordL (swp (hst h) i j) (hm h)) rm 0 (cutz z rm) k).2).toInt64
      have e2 : d_M_changed (on i) (on j) (on k) Vd = some (on (dsN h f (ordL (swp (hst h) i j) (hm h)) rm 0 (cutz z rm) k).2 - on (dsN h f (ordL (hst h) (hm h)) rm 0 (cutz z rm) k).2, Wh) := by
        rw [d_M_changed, areTwo_eq hO K1'.2.1, bd_some, if_neg (by rw [tf_pos ⟨hx, hy, hne⟩]; decide), isMore_on k1 k2, bd_some, if_pos (by decide), gi_si, if_neg (by decide), r1, ee, bd_some]
        show ((d_M_dryBy (-1) (on k) (gi (si (si We 89 30 (on i)) 89 31 (on j)) 89 8) (si (si We 89 30 (on i)) 89 31 (on j))).bind _) = _
        rw [Fe'.gi 89 8 rfl, r1, ef, bd_some]
        show ((d_M_tell _ (si (si (si Wf 89 30 (-1)) 89 31 (-1)) 89 13 0)).bind _) = _
        rw [eg, bd_some, eh]; rfl
      have F2 : Fr w_M_changed Vd Wh := fr_M_changed _ _ _ _ _ e2
      have FX : Fr ([(89, 13)], [97]) (si (si Wf 89 30 (-1)) 89 31 (-1)) Wh := Fr.tr (Fr.tr (Fr.si Fr.rf rfl) Fg rfl) Fh rfl
      refine ⟨_, Vd, Wh, e1, e2, hI.qq F1 F2 rfl rfl rfl rfl (o := some _) (fun r hr => by obtain rfl := Option.some.inj hr; simp) cd ch ?_⟩
      obtain ⟨x1, x2, x3, x4⟩ := hI.x
      have h15 := F2.2.2
      refine ⟨?_, ?_, ?_, ?_⟩
      · rw [FX.gi 89 30 rfl, gi_si, if_neg (by decide), gi_si, if_pos ⟨rfl, rfl⟩]
      · rw [FX.gi 89 31 rfl, gi_si, if_pos ⟨rfl, rfl⟩]
      · rw [F2.gr 64 2 rfl, F1.gr 64 2 rfl]; exact x3
      · rcases h15 with q | q | q
        · rw [q, F1.gr 89 15 rfl]; exact x4
        · exact Or.inr (Or.inl q)
        · exact Or.inr (Or.inr q)
    · refine ⟨-1000, V, si V 89 14 0, ?_, ?_, hI.no 0⟩
      · rw [d_X_changed, has_eq kc.2.1, bd_some, if_neg (by rw [tf_pos hx]; decide), has_eq kc.2.1, bd_some, if_neg (by rw [tf_pos hy]; decide), if_neg hne]
        by_cases e : v < 1
        · rw [if_pos e]; rfl
        · rw [if_neg e, if_neg (fun e2 => hv ⟨nlt.mp e, e2⟩)]; rfl
      · rw [d_M_changed, areTwo_eq hO (km.s14 0).2.1, bd_some, if_neg (by rw [tf_pos ⟨hx, hy, hne⟩]; decide), isMore_eq, bd_some, if_neg (fun hn => hn (tf_neg hv))]; rfl
  · refine ⟨-1000, V, si V 89 14 0, ?_, ?_, hI.no 0⟩
    · rw [d_X_changed, has_eq kc.2.1, bd_some]
      by_cases hx : 0 ≤ x ∧ x < on (hm h)
      · rw [if_neg (by rw [tf_pos hx]; decide), has_eq kc.2.1, bd_some]
        by_cases hy : 0 ≤ y ∧ y < on (hm h)
        · rw [if_neg (by rw [tf_pos hy]; decide)]
          by_cases e : x = y
          · rw [if_pos e]; rfl
          · exact absurd ⟨hx, hy, e⟩ hxy
        · rw [if_pos (tf_neg hy)]; rfl
      · rw [if_pos (tf_neg hx)]; rfl
    · rw [d_M_changed, areTwo_eq hO (km.s14 0).2.1, bd_some, if_pos (tf_neg hxy)]; rfl
