/-! ===== rents ===== -/
def FR (w : Nat → Nat → Int32) (k : Nat) (B : Nat → Nat) (c : Nat → Int32) : Prop := ∀ i, i < k → ∀ j, j < k → w i j - c j ≤ w i (B i) - c (B i)
def fC (V : ai_V) (k : Nat) (B : Nat → Nat) : Prop := ∀ q, q < k → B q < k ∧ ga V 73 q = on (B q)
def fM (V : ai_V) (k : Nat) (B : Nat → Nat) : Prop := ∀ q, q < k → B q < k ∧ ga V 110 q = on (B q)
theorem C_fair1 {V : ai_V} {k : Nat} {w : Nat → Nat → Int32} {c : Nat → Int32} (h4 : k ≤ 4) (hw : WC V k w) (hc : ∀ q, q < k → ga V 77 q = c q) {F : Int32 → ai_V → Option Int32} {i : Nat} (hi : i < k) (x : Int32) : ∀ (m j n : Nat), j + m = k → m < n →
    ((∀ q, j ≤ q → q < k → w i q - c q ≤ x) → d_Worths_nobodyEnvies_36 F n (on i) x (on j) V = F (on (i + 1)) V) ∧ ((¬ ∀ q, j ≤ q → q < k → w i q - c q ≤ x) → d_Worths_nobodyEnvies_36 F n (on i) x (on j) V = some 0) := by
  intro m
  induction m with
  | zero =>
    intro j n hj hn
    obtain ⟨n, rfl⟩ : ∃ n', n = n' + 1 := ⟨n - 1, by omega⟩
    refine ⟨fun _ => ?_, fun hn => absurd (fun q h1 h2 => absurd h2 (by omega)) hn⟩
    rw [d_Worths_nobodyEnvies_36, hw.1, if_pos (by rw [on_le (by omega) (by omega)]; omega), on_s]
  | succ m ih =>
    intro j n hj hn
    obtain ⟨n, rfl⟩ : ∃ n', n = n' + 1 := ⟨n - 1, by omega⟩
    obtain ⟨i1, i2⟩ := ih (j + 1) n (by omega) (by omega)
    have e : d_Worths_nobodyEnvies_36 F (n + 1) (on i) x (on j) V = if w i j - c j ≤ x then d_Worths_nobodyEnvies_36 F n (on i) x (on (j + 1)) V else some 0 := by
      rw [d_Worths_nobodyEnvies_36, hw.1, if_neg (by rw [on_le (by omega) (by omega)]; omega), worth_eq hw h4 hi (by omega), bd_some, if_pos (by rw [on_in (by omega)]; omega), on_nn (by omega), hc j (by omega), on_s]
    rw [e]
    refine ⟨fun ha => ?_, fun hn => ?_⟩
    · rw [if_pos (ha j (by omega) (by omega))]
      exact i1 (fun q h1 h2 => ha q (by omega) h2)
    · by_cases ej : w i j - c j ≤ x
      · rw [if_pos ej]
        refine i2 (fun ha => hn (fun q h1 h2 => ?_))
        by_cases eq : q = j
        · rw [eq]; exact ej
        · exact ha q (by omega) h2
      · rw [if_neg ej]
theorem C_fair2 {V : ai_V} {k : Nat} {w : Nat → Nat → Int32} {B : Nat → Nat} {c : Nat → Int32} (h4 : k ≤ 4) (hw : WC V k w) (hB : fC V k B) (hc : ∀ q, q < k → ga V 77 q = c q) : ∀ (m i n : Nat), i + m = k → m < n →
    ((∀ p, i ≤ p → p < k → ∀ q, q < k → w p q - c q ≤ w p (B p) - c (B p)) → d_Worths_nobodyEnvies_2 n (on i) V = some 1) ∧ ((¬ ∀ p, i ≤ p → p < k → ∀ q, q < k → w p q - c q ≤ w p (B p) - c (B p)) → d_Worths_nobodyEnvies_2 n (on i) V = some 0) := by
  intro m
  induction m with
  | zero =>
    intro i n hi hn
    obtain ⟨n, rfl⟩ : ∃ n', n = n' + 1 := ⟨n - 1, by omega⟩
    refine ⟨fun _ => ?_, fun hn => absurd (fun q h1 h2 => absurd h2 (by omega)) hn⟩
    rw [d_Worths_nobodyEnvies_2, hw.1, if_pos (by rw [on_le (by omega) (by omega)]; omega)]
  | succ m ih =>
    intro i n hi hn
    obtain ⟨n, rfl⟩ : ∃ n', n = n' + 1 := ⟨n - 1, by omega⟩
    obtain ⟨i1, i2⟩ := ih (i + 1) n (by omega) (by omega)
    obtain ⟨b1, b2⟩ := hB i (by omega)
    have hin : ai_in (on i) 4 := by rw [on_in (by omega)]; omega
    have hib : ai_in (on (B i)) 4 := by rw [on_in (by omega)]; omega
    have b2' : ga V 73 (on i).toNatClampNeg = on (B i) := by rw [on_nn (by omega)]; exact b2
    have e : d_Worths_nobodyEnvies_2 (n + 1) (on i) V = d_Worths_nobodyEnvies_36 (d_Worths_nobodyEnvies_2 n) ai_N (on i) (w i (B i) - c (B i)) (on 0) V := by
      rw [d_Worths_nobodyEnvies_2, hw.1, if_neg (by rw [on_le (by omega) (by omega)]; omega), if_pos hin, b2', worth_eq hw h4 (by omega) b1, bd_some, if_pos hin, if_pos hib, on_nn (by omega), hc _ b1]; rfl
    obtain ⟨f1, f2⟩ := C_fair1 h4 hw hc (F := d_Worths_nobodyEnvies_2 n) (i := i) (by omega) (w i (B i) - c (B i)) k 0 ai_N (by omega) (N_gt (by omega))
    rw [e]
    refine ⟨fun ha => ?_, fun hn => ?_⟩
    · rw [f1 (fun q _ h2 => ha i (by omega) (by omega) q h2)]
      exact i1 (fun p h1 h2 => ha p (by omega) h2)
    · by_cases ej : ∀ q, 0 ≤ q → q < k → w i q - c q ≤ w i (B i) - c (B i)
      · rw [f1 ej]
        refine i2 (fun ha => hn (fun p h1 h2 q h3 => ?_))
        by_cases eq : p = i
        · rw [eq]; exact ej q (by omega) h3
        · exact ha p (by omega) h2 q h3
      · exact f2 ej
theorem M_fair1 {V : ai_V} {k : Nat} {w : Nat → Nat → Int32} {c : Nat → Int32} (h4 : k ≤ 4) (hw : WM V k w) (hc : ∀ q, q < k → ga V 111 q = c q) {F : Int32 → ai_V → Option Int32} {i : Nat} (hi : i < k) (x : Int32) : ∀ (m j n : Nat), j + m = k → m < n →
    ((∀ q, j ≤ q → q < k → w i q - c q ≤ x) → d_M_isFair_40 F n (on i) x (on j) V = F (on (i + 1)) V) ∧ ((¬ ∀ q, j ≤ q → q < k → w i q - c q ≤ x) → d_M_isFair_40 F n (on i) x (on j) V = some 0) := by
  intro m
  induction m with
  | zero =>
    intro j n hj hn
    obtain ⟨n, rfl⟩ : ∃ n', n = n' + 1 := ⟨n - 1, by omega⟩
    refine ⟨fun _ => ?_, fun hn => absurd (fun q h1 h2 => absurd h2 (by omega)) hn⟩
    rw [d_M_isFair_40, hw.1, if_pos (by rw [on_le (by omega) (by omega)]; omega), on_s]
  | succ m ih =>
    intro j n hj hn
    obtain ⟨n, rfl⟩ : ∃ n', n = n' + 1 := ⟨n - 1, by omega⟩
    obtain ⟨i1, i2⟩ := ih (j + 1) n (by omega) (by omega)
    have e : d_M_isFair_40 F (n + 1) (on i) x (on j) V = if w i j - c j ≤ x then d_M_isFair_40 F n (on i) x (on (j + 1)) V else some 0 := by
      rw [d_M_isFair_40, hw.1, if_neg (by rw [on_le (by omega) (by omega)]; omega), show (4 : Int32) = on 4 from rfl, on_mul, on_add, if_pos (by rw [on_in (by omega)]; omega), if_pos (by rw [on_in (by omega)]; omega), on_nn (by omega), on_nn (by omega), hw.2 i j hi (by omega), hc j (by omega), on_s]
    rw [e]
    refine ⟨fun ha => ?_, fun hn => ?_⟩
    · rw [if_pos (ha j (by omega) (by omega))]
      exact i1 (fun q h1 h2 => ha q (by omega) h2)
    · by_cases ej : w i j - c j ≤ x
      · rw [if_pos ej]
        refine i2 (fun ha => hn (fun q h1 h2 => ?_))
        by_cases eq : q = j
        · rw [eq]; exact ej
        · exact ha q (by omega) h2
      · rw [if_neg ej]
theorem M_fair2 {V : ai_V} {k : Nat} {w : Nat → Nat → Int32} {B : Nat → Nat} {c : Nat → Int32} (h4 : k ≤ 4) (hw : WM V k w) (hB : fM V k B) (hc : ∀ q, q < k → ga V 111 q = c q) : ∀ (m i n : Nat), i + m = k → m < n →
    ((∀ p, i ≤ p → p < k → ∀ q, q < k → w p q - c q ≤ w p (B p) - c (B p)) → d_M_isFair_2 n (on i) V = some 1) ∧ ((¬ ∀ p, i ≤ p → p < k → ∀ q, q < k → w p q - c q ≤ w p (B p) - c (B p)) → d_M_isFair_2 n (on i) V = some 0) := by
  intro m
  induction m with
  | zero =>
    intro i n hi hn
    obtain ⟨n, rfl⟩ : ∃ n', n = n' + 1 := ⟨n - 1, by omega⟩
    refine ⟨fun _ => ?_, fun hn => absurd (fun q h1 h2 => absurd h2 (by omega)) hn⟩
    rw [d_M_isFair_2, hw.1, if_pos (by rw [on_le (by omega) (by omega)]; omega)]
  | succ m ih =>
    intro i n hi hn
    obtain ⟨n, rfl⟩ : ∃ n', n = n' + 1 := ⟨n - 1, by omega⟩
    obtain ⟨i1, i2⟩ := ih (i + 1) n (by omega) (by omega)
    obtain ⟨b1, b2⟩ := hB i (by omega)
    have hin : ai_in (on i) 4 := by rw [on_in (by omega)]; omega
    have hib : ai_in (on (B i)) 4 := by rw [on_in (by omega)]; omega
    have b2' : ga V 110 (on i).toNatClampNeg = on (B i) := by rw [on_nn (by omega)]; exact b2
    have e : d_M_isFair_2 (n + 1) (on i) V = d_M_isFair_40 (d_M_isFair_2 n) ai_N (on i) (w i (B i) - c (B i)) (on 0) V := by
      rw [d_M_isFair_2, hw.1, if_neg (by rw [on_le (by omega) (by omega)]; omega), if_pos hin, b2', show (4 : Int32) = on 4 from rfl, on_mul, on_add, if_pos (by rw [on_in (by omega)]; omega), if_pos hin, if_pos hib, on_nn (by omega), on_nn (by omega), hw.2 _ _ (by omega) b1, hc _ b1]; rfl
    obtain ⟨f1, f2⟩ := M_fair1 h4 hw hc (F := d_M_isFair_2 n) (i := i) (by omega) (w i (B i) - c (B i)) k 0 ai_N (by omega) (N_gt (by omega))
    rw [e]
    refine ⟨fun ha => ?_, fun hn => ?_⟩
    · rw [f1 (fun q _ h2 => ha i (by omega) (by omega) q h2)]
      exact i1 (fun p h1 h2 => ha p (by omega) h2)
    · by_cases ej : ∀ q, 0 ≤ q → q < k → w i q - c q ≤ w i (B i) - c (B i)
      · rw [f1 ej]
        refine i2 (fun ha => hn (fun p h1 h2 q h3 => ?_))
        by_cases eq : p = i
        · rw [eq]; exact ej q (by omega) h3
        · exact ha p (by omega) h2 q h3
      · exact f2 ej
/-! the search -/
abbrev Rs : Type := Int32 × (Nat → Int32)
noncomputable def rLf (w : Nat → Nat → Int32) (k : Nat) (B : Nat → Nat) (l : Nat) (c : Nat → Int32) (s : Rs) : Rs := by
  classical exact if l = 0 ∧ FR w k B c then (s.1 + 1, if s.1 = 0 then c else s.2) else s
def rUp (c : Nat → Int32) (i r : Nat) : Nat → Int32 := fun q => if q = i then on r else c q
noncomputable def RS (w : Nat → Nat → Int32) (k : Nat) (B : Nat → Nat) : Nat → Nat → Nat → (Nat → Int32) → Rs → Rs
  | 0, _, l, c, s => rLf w k B l c s
  | n + 1, i, l, c, s => fo (fun r s => RS w k B n (i + 1) (l - r) (rUp c i r) s) (min 12 l + 1) 0 s
theorem rLf_no {w : Nat → Nat → Int32} {k : Nat} {B : Nat → Nat} {l : Nat} {c : Nat → Int32} {s : Rs} (h : ¬ (l = 0 ∧ FR w k B c)) : rLf w k B l c s = s := by
  unfold rLf; exact if_neg h
theorem rLf_yes {w : Nat → Nat → Int32} {k : Nat} {B : Nat → Nat} {l : Nat} {c : Nat → Int32} {s : Rs} (h : l = 0 ∧ FR w k B c) : rLf w k B l c s = (s.1 + 1, if s.1 = 0 then c else s.2) := by
  unfold rLf; exact if_pos h
theorem RS_none (w : Nat → Nat → Int32) (k : Nat) (B : Nat → Nat) : ∀ (n i l : Nat) (c : Nat → Int32) (s : Rs), 12 * n < l → RS w k B n i l c s = s := by
  intro n
  induction n with
  | zero => intro i l c s h; rw [RS]; exact rLf_no (fun hc => by omega)
  | succ n ih =>
    intro i l c s h
    rw [RS]
    exact fo_ind (fun _ a => a = s) (min 12 l + 1) (fun r a hr ha => by rw [ha]; exact ih _ _ _ _ (by omega)) (min 12 l + 1) 0 s (by omega) rfl
def gC (k i : Nat) (c : Nat → Int32) (s : Rs) (V : ai_V) : Prop := (∀ q, q < i → ga V 77 q = c q) ∧ gi V 72 7 = s.1 ∧ (s.1 ≠ 0 → ∀ q, q < k → ga V 74 q = s.2 q)
def gM (k i : Nat) (c : Nat → Int32) (s : Rs) (V : ai_V) : Prop := (∀ q, q < i → ga V 111 q = c q) ∧ gi V 89 52 = s.1 ∧ (s.1 ≠ 0 → ∀ q, q < k → ga V 112 q = s.2 q)
def wRC : Fw := ([(72, 7)], [74, 77])
def wRM : Fw := ([(89, 52)], [111, 112])
theorem gC_set {k i r : Nat} {c : Nat → Int32} {s : Rs} {V : ai_V} (h : gC k i c s V) : gC k (i + 1) (rUp c i r) s (sa V 77 i (on r)) := by
  refine ⟨fun q hq => ?_, h.2.1, fun hne q hq => ?_⟩
  · rw [ga_sa]
    show _ = if q = i then on r else c q
    by_cases e : q = i
    · rw [if_pos ⟨rfl, e⟩, if_pos e]
    · rw [if_neg (fun hc => e hc.2), if_neg e]; exact h.1 q (by omega)
  · rw [ga_sa_ne (by decide)]; exact h.2.2 hne q hq
theorem gC.w {k i r : Nat} {c : Nat → Int32} {s : Rs} {V : ai_V} (h : gC k (i + 1) (rUp c i r) s V) : gC k i c s V := by
  refine ⟨fun q hq => ?_, h.2⟩
  rw [h.1 q (by omega), rUp, if_neg (by omega)]
theorem gM_set {k i r : Nat} {c : Nat → Int32} {s : Rs} {V : ai_V} (h : gM k i c s V) : gM k (i + 1) (rUp c i r) s (sa V 111 i (on r)) := by
  refine ⟨fun q hq => ?_, h.2.1, fun hne q hq => ?_⟩
  · rw [ga_sa]
    show _ = if q = i then on r else c q
    by_cases e : q = i
    · rw [if_pos ⟨rfl, e⟩, if_pos e]
    · rw [if_neg (fun hc => e hc.2), if_neg e]; exact h.1 q (by omega)
  · rw [ga_sa_ne (by decide)]; exact h.2.2 hne q hq
theorem gM.w {k i r : Nat} {c : Nat → Int32} {s : Rs} {V : ai_V} (h : gM k (i + 1) (rUp c i r) s V) : gM k i c s V := by
  refine ⟨fun q hq => ?_, h.2⟩
  rw [h.1 q (by omega), rUp, if_neg (by omega)]
theorem fC.fr {V V' : ai_V} {k : Nat} {B : Nat → Nat} {u : Fw} (h : fC V k B) (F : Fr u V V') (hd : fw_a 73 u.2 = false) : fC V' k B := by
  unfold fC at *
  rw [(F.2.1 73 hd).1]; exact h
theorem fM.fr {V V' : ai_V} {k : Nat} {B : Nat → Nat} {u : Fw} (h : fM V k B) (F : Fr u V V') (hd : fw_a 110 u.2 = false) : fM V' k B := by
  unfold fM at *
  rw [(F.2.1 110 hd).1]; exact h
theorem max_sub {a b : Nat} (ha : a < 1000) (hb : b < 1000) : ai_max 0 (on a - on b) = on (a - b) := by
  apply ti_eq.mpr
  have h1 := on_ti (show a < 2147483648 by omega)
  have h2 := on_ti (show b < 2147483648 by omega)
  have h3 := on_ti (show a - b < 2147483648 by omega)
  have h0 : (0 : Int32).toInt = 0 := rfl
  rw [ai_max_ti, ti_sub (by omega) (by omega), h0, h1, h2, h3]
  omega
theorem C_RS {V0 : ai_V} {k : Nat} {w : Nat → Nat → Int32} {B : Nat → Nat} (h4 : k ≤ 4) (hw : WC V0 k w) (hB : fC V0 k B) : ∀ (n i l fu : Nat) (c : Nat → Int32) (s : Rs) (V : ai_V), i + n = k → n < fu → l < 49 → gC k i c s V → Fr wRC V0 V →
    ∃ V', d_Worths_share_R fu (on i) (on l) V = some V' ∧ gC k i c (RS w k B n i l c s) V' ∧ Fr wRC V0 V' := by
  intro n
  induction n with
  | zero =>
    intro i l fu c s V hi hfu hl hr hF
    obtain ⟨fu, rfl⟩ : ∃ n', fu = n' + 1 := ⟨fu - 1, by omega⟩
    obtain rfl : i = k := by omega
    have W1 := hw.fr hF rfl
    rw [d_Worths_share_R, d_Worths_share_B, W1.1, if_neg (by rw [on_lt (by omega) (by omega)]; omega), RS]
    by_cases e : l = 0
    · subst e
      obtain ⟨f1, f2⟩ := C_fair2 h4 W1 (hB.fr hF rfl) hr.1 i 0 ai_N (by omega) (N_gt (by omega))
      rw [if_neg (fun hn => hn rfl), d_Worths_nobodyEnvies]
      by_cases ef : FR w i B c
      · have f1' : d_Worths_nobodyEnvies_2 ai_N 0 V = some 1 := f1 (fun p _ h2 => ef p h2)
        rw [f1', bd_some, if_neg (by decide), hr.2.1, rLf_yes ⟨rfl, ef⟩]
        by_cases e0 : s.1 = 0
        · rw [if_neg (fun hn => hn e0), if_pos ⟨by decide, by decide, on_ge0 (by omega), by rw [on_nn (by omega)]; show 0 + i ≤ 4; omega, by rw [on_nn (by omega)]; show 0 + i ≤ 4; omega⟩, d_Worths_share_43, if_pos e0]
          refine ⟨_, rfl, ⟨fun q hq => ?_, ?_, fun _ q hq => ?_⟩, Fr.si (Fr.cp hF rfl) rfl⟩
          · rw [ga_si, ga_cpy, if_neg (by decide)]; exact hr.1 q hq
          · rw [gi_si, if_pos ⟨rfl, rfl⟩]
            show gi V 72 7 + 1 = s.1 + 1
            rw [hr.2.1]
          · rw [ga_si, ga_cpy, if_pos rfl, show ((0 : Int32)).toNatClampNeg = 0 from rfl, on_nn (by omega), if_pos (by omega)]
            rw [show 0 + (q - 0) = q by omega]; exact hr.1 q hq
        · rw [if_pos e0, d_Worths_share_43, if_neg e0]
          refine ⟨_, rfl, ⟨fun q hq => ?_, ?_, fun _ q hq => ?_⟩, Fr.si hF rfl⟩
          · rw [ga_si]; exact hr.1 q hq
          · rw [gi_si, if_pos ⟨rfl, rfl⟩, hr.2.1]
          · rw [ga_si]; exact hr.2.2 e0 q hq
      · have f2' : d_Worths_nobodyEnvies_2 ai_N 0 V = some 0 := f2 (fun ha => ef (fun p h2 => ha p (by omega) h2))
        rw [f2', bd_some, if_pos rfl, rLf_no (fun hc => ef hc.2)]
        exact ⟨V, rfl, hr, hF⟩
    · rw [if_pos (by rw [zero_on, on_inj (by omega) (by omega)]; omega), rLf_no (fun hc => e hc.1)]
      exact ⟨V, rfl, hr, hF⟩
  | succ n ih =>
    intro i l fu c s V hi hfu hl hr hF
    obtain ⟨fu, rfl⟩ : ∃ n', fu = n' + 1 := ⟨fu - 1, by omega⟩
    have W1 := hw.fr hF rfl
    have e0 : fo (fun r s => RS w k B n (i + 1) (l - r) (rUp c i r) s) (l - 12 * (k - 1 - i)) 0 s = s := fo_ind (fun _ a => a = s) (l - 12 * (k - 1 - i)) (fun r a hr ha => by rw [ha]; exact RS_none w k B _ _ _ _ _ (by omega)) (l - 12 * (k - 1 - i)) 0 s (by omega) rfl
    rw [d_Worths_share_R, d_Worths_share_B, W1.1, if_pos (by rw [on_lt (by omega) (by omega)]; omega), RS, show (12 : Int32) = on 12 from rfl, one_on, on_sub (by omega), on_sub (by omega), on_mul, max_sub (by omega) (by omega)]
    by_cases eb : l - 12 * (k - 1 - i) ≤ min 12 l + 1
    · refine loop_n (fun n' (_ : Unit) x V => d_Worths_share_75 (d_Worths_share_R fu) n' (on i) (on l) x V) (fun c : ai_V => some c)
        (fun r _ V' => gC k i c (fo (fun r s => RS w k B n (i + 1) (l - r) (rUp c i r) s) r 0 s) V' ∧ Fr wRC V0 V')
        (fun V' => gC k i c (fo (fun r s => RS w k B n (i + 1) (l - r) (rUp c i r) s) (min 12 l + 1) 0 s) V' ∧ Fr wRC V0 V') (min 12 l + 1) ?_ ?_ (min 12 l + 1 - (l - 12 * (k - 1 - i))) (l - 12 * (k - 1 - i)) ai_N () V (by omega) (N_gt (by omega)) ⟨by rw [e0]; exact hr, hF⟩
      · rintro n' _ r V2 hr' ⟨r2, F2⟩
        show ∃ (a' : Unit) (V' : ai_V), d_Worths_share_75 (d_Worths_share_R fu) (n' + 1) (on i) (on l) (on r) V2 = _ ∧ _
        have F3 : Fr wRC V0 (sa V2 77 i (on r)) := Fr.sa F2 rfl
        obtain ⟨V4, e4, r4, F4⟩ := ih (i + 1) (l - r) fu (rUp c i r) _ (sa V2 77 i (on r)) (by omega) (by omega) (by omega) (gC_set r2) F3
        rw [d_Worths_share_75, show (12 : Int32) = on 12 from rfl, if_neg (by rw [on_lt (by omega) (by omega)]; omega), if_neg (by rw [on_lt (by omega) (by omega)]; omega), if_pos (by rw [on_in (by omega)]; omega), on_nn (by omega), on_s, on_sub (by omega), e4, bd_some, on_s, fo_s, Nat.zero_add]
        exact ⟨(), V4, rfl, r4.w, F4⟩
      · rintro n' _ V2 ⟨r2, F2⟩
        show ∃ c : ai_V, d_Worths_share_75 (d_Worths_share_R fu) (n' + 1) (on i) (on l) (on (min 12 l + 1)) V2 = _ ∧ _
        rw [d_Worths_share_75, show (12 : Int32) = on 12 from rfl]
        by_cases e12 : 12 < min 12 l + 1
        · rw [if_pos (by rw [on_lt (by omega) (by omega)]; exact e12)]
          exact ⟨V2, rfl, r2, F2⟩
        · rw [if_neg (by rw [on_lt (by omega) (by omega)]; exact e12), if_pos (by rw [on_lt (by omega) (by omega)]; omega)]
          exact ⟨V2, rfl, r2, F2⟩
    · have hl12 : 12 < l - 12 * (k - 1 - i) := by omega
      have e1 : fo (fun r s => RS w k B n (i + 1) (l - r) (rUp c i r) s) (min 12 l + 1) 0 s = s := fo_ind (fun _ a => a = s) (min 12 l + 1) (fun r a hr ha => by rw [ha]; exact RS_none w k B _ _ _ _ _ (by omega)) (min 12 l + 1) 0 s (by omega) rfl
      rw [e1]
      have : d_Worths_share_75 (d_Worths_share_R fu) ai_N (on i) (on l) (on (l - 12 * (k - 1 - i))) V = some V := by
        show d_Worths_share_75 (d_Worths_share_R fu) (19999 + 1) (on i) (on l) (on (l - 12 * (k - 1 - i))) V = some V
        rw [d_Worths_share_75, show (12 : Int32) = on 12 from rfl, if_pos (by rw [on_lt (by omega) (by omega)]; exact hl12)]
      exact ⟨V, this, hr, hF⟩
theorem M_rs29 {T : Int32 → Int32 → ai_V → Option ai_V} {V : ai_V} {k : Nat} (h4 : k ≤ 4) (hk : gi V 89 46 = on k) : ∃ V', d_M_goRents_29 T ai_N 0 V = some (si V' 89 52 (gi V 89 52 + 1)) ∧ (∀ q, q < k → ga V' 112 q = ga V 111 q) ∧ Fr ([], [112]) V V' := by
  have := loop_n (fun n (_ : Unit) x V => d_M_goRents_29 T n x V) (fun c : ai_V => some (si c 89 52 (gi V 89 52 + 1))) (fun i _ V1 => (∀ q, q < i → ga V1 112 q = ga V 111 q) ∧ Fr ([], [112]) V V1) (fun V' => (∀ q, q < k → ga V' 112 q = ga V 111 q) ∧ Fr ([], [112]) V V') k ?_ ?_ k 0 ai_N () V (by omega) (N_gt (by omega)) ⟨fun q hq => absurd hq (by omega), Fr.rf⟩
  · exact this
  · rintro n _ i V1 hi ⟨a1, hF⟩
    have hin : ai_in (on i) 4 := by rw [on_in (by omega)]; omega
    show ∃ a' V', d_M_goRents_29 T (n + 1) (on i) V1 = _ ∧ _
    rw [d_M_goRents_29, hF.gi 89 46 rfl, hk, if_neg (by rw [on_le (by omega) (by omega)]; omega), if_pos hin, if_pos hin, on_s, on_nn (by omega)]
    refine ⟨(), _, rfl, fun q hq => ?_, Fr.sa hF rfl⟩
    rw [ga_sa, hF.ga 111 rfl]
    by_cases e : q = i
    · rw [if_pos ⟨rfl, e⟩, e]
    · rw [if_neg (fun hc => e hc.2)]; exact a1 q (by omega)
  · rintro n _ V1 ⟨a1, hF⟩
    show ∃ c : ai_V, d_M_goRents_29 T (n + 1) (on k) V1 = _ ∧ _
    rw [d_M_goRents_29, hF.gi 89 46 rfl, hk, if_pos (Int32.le_refl _), d_M_goRents_55, hF.gi 89 52 rfl]
    exact ⟨V1, rfl, a1, hF⟩
theorem M_RS {V0 : ai_V} {k : Nat} {w : Nat → Nat → Int32} {B : Nat → Nat} (h4 : k ≤ 4) (hw : WM V0 k w) (hB : fM V0 k B) : ∀ (n i l fu : Nat) (c : Nat → Int32) (s : Rs) (V : ai_V), i + n = k → n < fu → l < 49 → gM k i c s V → Fr wRM V0 V →
    ∃ V', d_M_goRents_R fu (on i) (on l) V = some V' ∧ gM k i c (RS w k B n i l c s) V' ∧ Fr wRM V0 V' := by
  intro n
  induction n with
  | zero =>
    intro i l fu c s V hi hfu hl hr hF
    obtain ⟨fu, rfl⟩ : ∃ n', fu = n' + 1 := ⟨fu - 1, by omega⟩
    obtain rfl : i = k := by omega
    have W1 := hw.fr hF rfl
    rw [d_M_goRents_R, d_M_goRents_B, W1.1, if_neg (fun hn => hn rfl), RS]
    by_cases e : l = 0
    · subst e
      obtain ⟨f1, f2⟩ := M_fair2 h4 W1 (hB.fr hF rfl) hr.1 i 0 ai_N (by omega) (N_gt (by omega))
      rw [if_neg (fun hn => hn rfl), d_M_isFair]
      by_cases ef : FR w i B c
      · have f1' : d_M_isFair_2 ai_N 0 V = some 1 := f1 (fun p _ h2 => ef p h2)
        rw [f1', bd_some, if_pos (by decide), hr.2.1, rLf_yes ⟨rfl, ef⟩]
        by_cases e0 : s.1 = 0
        · obtain ⟨V3, e3, a3, F3⟩ := M_rs29 (T := d_M_goRents_R fu) h4 W1.1
          rw [if_neg (fun hn => hn e0), if_pos e0, e3]
          refine ⟨_, rfl, ⟨fun q hq => ?_, ?_, fun _ q hq => ?_⟩, Fr.si (Fr.tr hF F3 rfl) rfl⟩
          · rw [ga_si, F3.ga 111 rfl]; exact hr.1 q hq
          · rw [gi_si, if_pos ⟨rfl, rfl⟩, hr.2.1]
          · rw [ga_si, a3 q hq]; exact hr.1 q hq
        · rw [if_pos e0, d_M_goRents_55, if_neg e0]
          refine ⟨_, rfl, ⟨fun q hq => ?_, ?_, fun _ q hq => ?_⟩, Fr.si hF rfl⟩
          · rw [ga_si]; exact hr.1 q hq
          · rw [gi_si, if_pos ⟨rfl, rfl⟩, hr.2.1]
          · rw [ga_si]; exact hr.2.2 e0 q hq
      · have f2' : d_M_isFair_2 ai_N 0 V = some 0 := f2 (fun ha => ef (fun p h2 => ha p (by omega) h2))
        rw [f2', bd_some, if_neg (fun hn => hn rfl), rLf_no (fun hc => ef hc.2)]
        exact ⟨V, rfl, hr, hF⟩
    · rw [if_pos (by rw [zero_on, on_inj (by omega) (by omega)]; omega), rLf_no (fun hc => e hc.1)]
      exact ⟨V, rfl, hr, hF⟩
  | succ n ih =>
    intro i l fu c s V hi hfu hl hr hF
    obtain ⟨fu, rfl⟩ : ∃ n', fu = n' + 1 := ⟨fu - 1, by omega⟩
    have W1 := hw.fr hF rfl
    rw [d_M_goRents_R, d_M_goRents_B, W1.1, if_pos (by rw [on_inj (by omega) (by omega)]; omega), RS]
    refine loop_n (fun n' (_ : Unit) x V => d_M_goRents_68 (d_M_goRents_R fu) n' (on i) (on l) x V) (fun c : ai_V => some c)
      (fun r _ V' => gM k i c (fo (fun r s => RS w k B n (i + 1) (l - r) (rUp c i r) s) r 0 s) V' ∧ Fr wRM V0 V')
      (fun V' => gM k i c (fo (fun r s => RS w k B n (i + 1) (l - r) (rUp c i r) s) (min 12 l + 1) 0 s) V' ∧ Fr wRM V0 V') (min 12 l + 1) ?_ ?_ (min 12 l + 1) 0 ai_N () V (by omega) (N_gt (by omega)) ⟨hr, hF⟩
    · rintro n' _ r V2 hr' ⟨r2, F2⟩
      show ∃ (a' : Unit) (V' : ai_V), d_M_goRents_68 (d_M_goRents_R fu) (n' + 1) (on i) (on l) (on r) V2 = _ ∧ _
      have F3 : Fr wRM V0 (sa V2 111 i (on r)) := Fr.sa F2 rfl
      obtain ⟨V4, e4, r4, F4⟩ := ih (i + 1) (l - r) fu (rUp c i r) _ (sa V2 111 i (on r)) (by omega) (by omega) (by omega) (gM_set r2) F3
      rw [d_M_goRents_68, show (12 : Int32) = on 12 from rfl, if_neg (by rw [on_lt (by omega) (by omega)]; omega), if_neg (by rw [on_lt (by omega) (by omega)]; omega), if_pos (by rw [on_in (by omega)]; omega), on_nn (by omega), on_s, on_sub (by omega), e4, bd_some, on_s, fo_s, Nat.zero_add]
      exact ⟨(), V4, rfl, r4.w, F4⟩
    · rintro n' _ V2 ⟨r2, F2⟩
      show ∃ c : ai_V, d_M_goRents_68 (d_M_goRents_R fu) (n' + 1) (on i) (on l) (on (min 12 l + 1)) V2 = _ ∧ _
      rw [d_M_goRents_68, show (12 : Int32) = on 12 from rfl]
      by_cases e12 : 12 < min 12 l + 1
      · rw [if_pos (by rw [on_lt (by omega) (by omega)]; exact e12)]
        exact ⟨V2, rfl, r2, F2⟩
      · rw [if_neg (by rw [on_lt (by omega) (by omega)]; exact e12), if_pos (by rw [on_lt (by omega) (by omega)]; omega)]
        exact ⟨V2, rfl, r2, F2⟩
noncomputable def RT (w : Nat → Nat → Int32) (k : Nat) (l : Nat) : Rs := RS w k (fun q => ((AL w k k 0 0 0 a0).2.2 q).toNatClampNeg) k 0 l (fun _ => 0) (0, fun _ => 0)
def rtR (s : Rs) (i : Nat) : List Int64 := (List.range i).map (fun k => (s.2 k).toInt64)
theorem rtR_s (s : Rs) (i : Nat) : rtR s (i + 1) = rtR s i ++ [(s.2 i).toInt64] := by
  unfold rtR; rw [List.range_succ, List.map_append]; rfl
theorem rtR_len (s : Rs) (i : Nat) : (rtR s i).length = i := by simp [rtR]
theorem X_rents {V : ai_V} {k l : Nat} {w : Nat → Nat → Int32} (h4 : k ≤ 4) (h2 : 2 ≤ k) (hl : l < 49) (hw : WC V k w) (hn : (AL w k k 0 0 0 a0).2.1 ≠ -1) (hA : ∀ q, q < k → ∃ a, a < k ∧ (AL w k k 0 0 0 a0).2.2 q = on a) : ∃ V', d_X_rents (on l) V = some ((RT w k l).1, V') ∧ cRow V' (if (RT w k l).1 ≤ 0 then [] else rtR (RT w k l) k) := by
  obtain ⟨V3, e3, r3, F3⟩ := C_all h4 hw
  have F4 : Fr ([(72, 1), (72, 7)], [73, 76]) V (si V3 72 7 0) := Fr.si (Fr.tr Fr.rf F3 rfl) rfl
  have B4 : fC (si V3 72 7 0) k (fun q => ((AL w k k 0 0 0 a0).2.2 q).toNatClampNeg) := by
    intro q hq
    obtain ⟨a, a1, a2⟩ := hA q hq
    show ((AL w k k 0 0 0 a0).2.2 q).toNatClampNeg < k ∧ _ = on ((AL w k k 0 0 0 a0).2.2 q).toNatClampNeg
    rw [a2, on_nn (by omega), ga_si, r3.2.2 hn q hq, a2]
    exact ⟨a1, rfl⟩
  obtain ⟨V5, e5, r5, F5⟩ := C_RS h4 (hw.fr F4 rfl) B4 k 0 l 80 (fun _ => 0) (0, fun _ => 0) (si V3 72 7 0) (by omega) (by omega) hl ⟨fun q hq => absurd hq (by omega), by rw [gi_si, if_pos ⟨rfl, rfl⟩], fun hn => absurd rfl hn⟩ Fr.rf
  have e5' : d_Worths_share 0 (on l) (si V3 72 7 0) = some V5 := e5
  change gC k 0 _ (RT w k l) V5 at r5
  have W5 := (hw.fr F4 rfl).fr F5 rfl
  obtain ⟨q1, q2⟩ := row_clear V5
  rw [d_X_rents, if_neg (by rw [on_n0 (by omega)]; exact id), show (48 : Int32) = on 48 from rfl, if_pos (by rw [on_le (by omega) (by omega)]; omega), hw.1, if_pos (by rw [zero_on, on_inj (by omega) (by omega)]; omega), d_Worths_countRents, e3, bd_some, e5', bd_some, bd_some, q1, bd_some]
  simp only [r5.2.1]
  generalize RT w k l = s at *
  by_cases e0 : s.1 ≤ 0
  · rw [if_pos e0, if_pos e0]
    exact ⟨_, rfl, q2⟩
  · rw [if_neg e0, if_neg e0]
    have hne : s.1 ≠ 0 := by
      intro e
      rw [e] at e0
      exact e0 (by decide)
    obtain ⟨q3, q4⟩ := row_clear (si V5 22 1 0)
    rw [d_Worths_tellInto_72_22_74, q3, bd_some]
    have := loop_n (fun n (_ : Unit) x V => d_Worths_tellInto_72_22_74_6 n x V) (fun c : ai_V => some c)
      (fun i _ V' => cRow V' (rtR s i) ∧ Fr ([(22, 1)], [23]) V5 V') (fun c => cRow c (rtR s k)) k ?_ ?_ k 0 ai_N () _ (by omega) (N_gt (by omega)) ⟨q4, Fr.si (Fr.si Fr.rf rfl) rfl⟩
    · obtain ⟨V6, e, q1⟩ := this
      have e' : d_Worths_tellInto_72_22_74_6 ai_N 0 (si (si V5 22 1 0) 22 1 0) = some V6 := e
      rw [e', bd_some]
      exact ⟨V6, rfl, q1⟩
    · rintro n _ i V6 hi ⟨r6, F6⟩
      show ∃ (a' : Unit) (V' : ai_V), d_Worths_tellInto_72_22_74_6 (n + 1) (on i) V6 = _ ∧ _
      obtain ⟨V7, e7, r7, F7⟩ := row_add r6 (by rw [rtR_len]; omega) (s.2 i).toInt64
      rw [d_Worths_tellInto_72_22_74_6, F6.gi 72 0 rfl, W5.1, if_neg (by rw [on_le (by omega) (by omega)]; omega), if_pos (by rw [on_in (by omega)]; omega), on_nn (by omega), F6.ga 74 rfl, r5.2.2 hne i hi, e7, bd_some, on_s]
      exact ⟨(), V7, rfl, by rw [rtR_s]; exact r7, Fr.tr F6 F7 rfl⟩
    · rintro n _ V6 ⟨r6, F6⟩
      show ∃ c : ai_V, d_Worths_tellInto_72_22_74_6 (n + 1) (on k) V6 = _ ∧ _
      rw [d_Worths_tellInto_72_22_74_6, F6.gi 72 0 rfl, W5.1, if_pos (Int32.le_refl _)]
      exact ⟨_, rfl, r6⟩
theorem M_rents {V : ai_V} {k l : Nat} {w : Nat → Nat → Int32} (h4 : k ≤ 4) (h2 : 2 ≤ k) (hl : l < 49) (hw : WM V k w) (hn : (AL w k k 0 0 0 a0).2.1 ≠ -1) (hA : ∀ q, q < k → ∃ a, a < k ∧ (AL w k k 0 0 0 a0).2.2 q = on a) : ∃ V', d_M_rents (on l) V = some ((RT w k l).1, V') ∧ mRow V' (if (RT w k l).1 ≤ 0 then [] else rtR (RT w k l) k) := by
  have F0 : Fr ([(89, 14)], []) V (si V 89 14 0) := Fr.si Fr.rf rfl
  have W0 := hw.fr F0 rfl
  obtain ⟨V3, e3, r3, F3⟩ := M_all h4 W0
  have F4 : Fr ([(89, 14), (89, 49), (89, 52)], [109, 110]) V (si V3 89 52 0) := Fr.si (Fr.tr (Fr.si Fr.rf rfl) F3 rfl) rfl
  have B4 : fM (si V3 89 52 0) k (fun q => ((AL w k k 0 0 0 a0).2.2 q).toNatClampNeg) := by
    intro q hq
    obtain ⟨a, a1, a2⟩ := hA q hq
    show ((AL w k k 0 0 0 a0).2.2 q).toNatClampNeg < k ∧ _ = on ((AL w k k 0 0 0 a0).2.2 q).toNatClampNeg
    rw [a2, on_nn (by omega), ga_si, r3.2.2 hn q hq, a2]
    exact ⟨a1, rfl⟩
  obtain ⟨V5, e5, r5, F5⟩ := M_RS h4 (hw.fr F4 rfl) B4 k 0 l 80 (fun _ => 0) (0, fun _ => 0) (si V3 89 52 0) (by omega) (by omega) hl ⟨fun q hq => absurd hq (by omega), by rw [gi_si, if_pos ⟨rfl, rfl⟩], fun hn => absurd rfl hn⟩ Fr.rf
  have e5' : d_M_goRents 0 (on l) (si V3 89 52 0) = some V5 := e5
  change gM k 0 _ (RT w k l) V5 at r5
  have W5 := (hw.fr F4 rfl).fr F5 rfl
  have hx : (0 : Int32) ≤ on l ∧ on l ≤ 48 := ⟨on_ge0 (by omega), by rw [show (48 : Int32) = on 48 from rfl, on_le (by omega) (by omega)]; omega⟩
  rw [d_M_rents, in_eq, bd_some, if_pos (by rw [tf_pos hx]; decide), W0.1, if_pos (by rw [zero_on, on_inj (by omega) (by omega)]; omega), e3, bd_some, e5', bd_some]
  generalize RT w k l = s at *
  by_cases e0 : s.1 ≤ 0
  · rw [if_pos e0]
    have : d_M_rents_57 (19999 + 1) 0 (si V5 89 13 0) = some (s.1, si V5 89 13 0) := by
      have g6 : gi (si V5 89 13 0) 89 46 = on k := by rw [gi_si, if_neg (by decide)]; exact W5.1
      have g2 : gi (si V5 89 13 0) 89 52 = s.1 := by rw [gi_si, if_neg (by decide)]; exact r5.2.1
      rw [d_M_rents_57, g6, if_neg (by rw [zero_on, on_le (by omega) (by omega)]; omega), g2, if_pos e0, d_M_rents_89, g2]
    exact ⟨_, this, m_row0 V5⟩
  · rw [if_neg e0]
    have hne : s.1 ≠ 0 := by
      intro e
      rw [e] at e0
      exact e0 (by decide)
    have := loop_n (fun n (_ : Unit) x V => d_M_rents_57 n x V) (fun c : Int32 × ai_V => some c)
      (fun i _ V' => mRow V' (rtR s i) ∧ Fr ([(89, 13)], [97]) V5 V') (fun c => c.1 = s.1 ∧ mRow c.2 (rtR s k)) k ?_ ?_ k 0 ai_N () _ (by omega) (N_gt (by omega)) ⟨m_row0 V5, Fr.si Fr.rf rfl⟩
    · obtain ⟨⟨c1, c2⟩, e, q1, q2⟩ := this
      simp only at q1 q2
      subst q1
      exact ⟨c2, e, q2⟩
    · rintro n _ i V6 hi ⟨r6, F6⟩
      show ∃ (a' : Unit) (V' : ai_V), d_M_rents_57 (n + 1) (on i) V6 = _ ∧ _
      obtain ⟨V7, e7, r7, F7⟩ := m_tell r6 (by rw [rtR_len]; omega) (s.2 i).toInt64
      rw [d_M_rents_57, F6.gi 89 46 rfl, W5.1, if_neg (by rw [on_le (by omega) (by omega)]; omega), F6.gi 89 52 rfl, r5.2.1, if_neg e0, if_pos (by rw [on_in (by omega)]; omega), on_nn (by omega), F6.ga 112 rfl, r5.2.2 hne i hi, e7, bd_some, on_s]
      exact ⟨(), V7, rfl, by rw [rtR_s]; exact r7, Fr.tr F6 F7 rfl⟩
    · rintro n _ V6 ⟨r6, F6⟩
      show ∃ c : Int32 × ai_V, d_M_rents_57 (n + 1) (on k) V6 = _ ∧ _
      rw [d_M_rents_57, F6.gi 89 46 rfl, W5.1, if_pos (Int32.le_refl _), d_M_rents_89, F6.gi 89 52 rfl, r5.2.1]
      exact ⟨_, rfl, rfl, r6⟩
theorem st_rents {N : Nat} {V : ai_V} (hI : Inv N V) (hN : N < 512) (x : Int32) : Step N V (d_X_rents x) (d_M_rents x) := by
  obtain ⟨k, w, k1, h4, wc, wm, w9⟩ := hI.v
  have bad : ¬ (0 ≤ x ∧ x ≤ 48) → d_X_rents x V = some (-1, V) := by
    intro hb
    rw [d_X_rents]
    by_cases e : x < 0
    · rw [if_pos e]
    · rw [if_neg e, if_neg (fun hc => hb ⟨nlt.mp e, hc⟩)]
  by_cases hx : 0 ≤ x ∧ x ≤ 48
  · have hxn : ¬ x < 0 := nlt.mpr hx.1
    rcases k1 with rfl | h2
    · refine ⟨-2, V, si V 89 14 0, ?_, ?_, hI.no 0⟩
      · rw [d_X_rents, if_neg hxn, if_pos hx.2, wc.1]; rfl
      · rw [d_M_rents, in_eq, bd_some, if_pos (by rw [tf_pos hx]; decide), m14 _ _ 89 46 (by decide), wm.1]; rfl
    · obtain ⟨l, hl, rfl⟩ : ∃ l, l < 49 ∧ x = on l := by
        refine ⟨x.toNatClampNeg, ?_, (on_of hx.1).symm⟩
        have h1 := ti_nn x
        have h2 := ti_le.mp hx.2
        have h3 : (48 : Int32).toInt = 48 := rfl
        omega
      obtain ⟨-, hn, hA⟩ := all_pos h4 w9
      obtain ⟨V1, e1, c1⟩ := X_rents h4 h2 hl wc hn hA
      have F1 : Fr w_X_rents V V1 := fr_X_rents _ _ _ e1
      obtain ⟨V2, e2, c2⟩ := M_rents h4 h2 hl (wm.fr F1 rfl) hn hA
      have F2 : Fr w_M_rents V1 V2 := fr_M_rents _ _ _ e2
      refine ⟨_, V1, V2, e1, e2, hI.qq F1 F2 rfl rfl rfl rfl (o := some _) (fun r hr => ?_) c1 c2 (hI.x.fr2 F1 F2 rfl rfl)⟩
      obtain rfl := Option.some.inj hr
      by_cases e : (RT w k l).1 ≤ 0
      · rw [if_pos e]; simp
      · rw [if_neg e, rtR_len]; omega
  · refine ⟨-1, V, si V 89 14 0, bad hx, ?_, hI.no 0⟩
    rw [d_M_rents, in_eq, bd_some, tf_neg hx]; rfl
