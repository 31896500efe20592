/-! ===== the best rows: the model ===== -/
def KQ (V : ai_V) (P : PL) : Prop := KM V P.1 P.2.1 ∧ gi V 89 8 = on (plR P) ∧ ga V 90 13 = on P.2.2.1
theorem KQ.fr {V V' : ai_V} {P : PL} {w : Fw} (h : KQ V P) (F : Fr w V V') (hd : fw_dis ([(89, 1), (89, 9), (89, 7), (89, 22), (89, 30), (89, 31)], [91, 92, 93, 94, 95, 99]) w = true) (hd2 : fw_dis ([(89, 8)], [90]) w = true) : KQ V' P := by
  have t := Sm.of F hd2
  refine ⟨h.1.fr F hd, ?_⟩
  rw [t.i 89 8 rfl, t.a 90 rfl]; exact h.2
theorem wb_lt {P : PL} (hP : PO P) {w : Nat} (hw : gw P w) : wb w < 64 := Nat.lt_of_lt_of_le (gw_pr hP hw).2 (two_le hP.1.1)
theorem lv_eq {P : PL} (hP : PO P) {w i L : Nat} (hw : gw P w) (hi : i ≤ 12) (hL : L ≤ plR P) : ai_min (on (plR P)) (on L + qlif P.1 P.2.1 (wb w) (on (P.2.2.1 + i), on L, fun _ => 0, fun _ => 0)) = on L + (qlif P.1 P.2.1 (wb w) (on (P.2.2.1 + i), on L, fun _ => 0, fun _ => 0) - qovr P.1 P.2.1 (on (plR P)) (wb w) (on (P.2.2.1 + i), on L, fun _ => 0, fun _ => 0)) := by
  have hR := hP.2.2.2.1
  have hl := (gw_pr hP hw).1.lif hP.1 P.2.1 (on (P.2.2.1 + i), on L, fun _ => 0, fun _ => 0)
  have er := on_ti (show plR P < 2147483648 by omega)
  have eL := on_ti (show L < 2147483648 by omega)
  have e0 : (0 : Int32).toInt = 0 := rfl
  rw [qovr]
  generalize qlif P.1 P.2.1 (wb w) (on (P.2.2.1 + i), on L, fun _ => 0, fun _ => 0) = x at *
  show ai_min (on (plR P)) (on L + x) = on L + (x - ai_max 0 (on L + x - on (plR P)))
  have s1 : (on L + x).toInt = L + x.toInt := by rw [ti_add (by omega) (by omega), eL]
  have s2 : (on L + x - on (plR P)).toInt = L + x.toInt - plR P := by rw [ti_sub (by omega) (by omega), s1, er]
  have s3 : (ai_max 0 (on L + x - on (plR P))).toInt = max 0 (L + x.toInt - plR P) := by rw [ai_max_ti, s2, e0]
  have s4 : (x - ai_max 0 (on L + x - on (plR P))).toInt = x.toInt - max 0 (L + x.toInt - plR P) := by rw [ti_sub (by omega) (by omega), s3]
  apply ti_eq.mpr
  rw [ai_min_ti, s1, er, ti_add (by omega) (by omega), s4, eL]
  omega
def wLf : Fw := ([(89, 15), (89, 16), (89, 17), (89, 18), (89, 19), (89, 23), (89, 24), (89, 25), (89, 26), (89, 27), (89, 28), (89, 29)], [])
/-- one quarter, in numbers -/
theorem M_qt {V : ai_V} {P : PL} {i L w : Nat} (hP : PO P) (K : KQ V P) (hi : i ≤ 12) (hL : L ≤ plR P) (hw : gw P w) : ∃ V1 x, d_M_liftOfAll (on (wb w)) (on L) (on (P.2.2.1 + i)) V = some (x, V1) ∧ ga V1 90 13 = on P.2.2.1 ∧ ∃ V2, d_M_takes (ai_min (on (plR P)) (on L + x)) (on (P.2.2.1 + i)) V1 = some (on (nxl P (wb w) i L), V2) ∧ gi V2 89 29 = on (nxq P (wb w) i L).2 ∧ Fr wLf V V2 := by
  have h2 := hP.2.1
  obtain ⟨V1, e1⟩ := liftOfAll_eq K.1.1 K.1.2.1 K.1.2.2.1 (wb_lt hP hw) (on L) (on (P.2.2.1 + i))
  have F1 : Fr w_M_liftOfAll V V1 := fr_M_liftOfAll _ _ _ _ _ e1
  have K1 := K.fr F1 rfl rfl
  obtain ⟨V2, e2, a2, F2⟩ := takes_eq (w := P.2.2.1 + i) K1.1.1 K1.1.2.1 (by omega) (ai_min (on (plR P)) (on L + LA P.1 P.2.1 (wb w) (on L) (q12 (on (P.2.2.1 + i))) (hbr P.1))) K1.1.2.2.2
  have eq : tk P.1 ((P.2.2.1 + i) % 12) (ordL (hst P.1) (hm P.1)) (ai_min (on (plR P)) (on L + LA P.1 P.2.1 (wb w) (on L) (q12 (on (P.2.2.1 + i))) (hbr P.1)), 0) = nxq P (wb w) i L := by
    have := lv_eq hP hw hi hL
    unfold nxq qT
    rw [← this]
    show _ = tk P.1 ((on (P.2.2.1 + i)).toNatClampNeg % 12) _ _
    rw [on_nn (by omega)]; rfl
  rw [eq] at e2 a2
  rw [(nx_ok hP hw hi hL).1] at e2
  exact ⟨V1, _, e1, K1.2.2, V2, e2, a2, Fr.tr (Fr.tr Fr.rf F1 rfl) F2 rfl⟩
def TM (V : ai_V) (P : PL) (n r : Nat) : Prop := ∀ i L, r ≤ i → i ≤ n → L ≤ plR P → ga V 104 (1000 * i + L) = on (bst P (n - i) i L)
theorem TM.fr {V V' : ai_V} {P : PL} {n r : Nat} {w : Fw} (h : TM V P n r) (F : Fr w V V') (hd : fw_a 104 w.2 = false) : TM V' P n r := by
  unfold TM at *
  rw [(F.2.1 104 hd).1]; exact h
def md (P : PL) : Int32 := if plF P = true then 0 else 1
theorem vld_lt {P : PL} {k v : Nat} (h : vld P k v) (hk : k ≤ 12) : v ≤ 1000000000 := by
  rcases h with ⟨-, h2 | ⟨a, t, h2, h3, h4⟩⟩ | ⟨-, a, t, h2, h3, h4⟩ <;> omega
theorem M_left {V : ai_V} {P : PL} {n i k L w : Nat} (hP : PO P) (hn : n ≤ 12) (hik : i + (k + 1) = n) (K : KQ V P) (hT : TM V P n (i + 1)) (hL : L ≤ plR P) (hw : gw P w) : ∃ V', d_M_leftBy (on i) (on L) (wi w) (md P) V = some (on (cst P (bst P k (i + 1)) i L w), V') ∧ Fr wLf V V' := by
  have h6 := hP.1.1
  have hR := hP.2.2.2.1
  have hw6 : w ≤ 6 := by
    rcases hw with rfl | h
    · omega
    · omega
  obtain ⟨n1, n2, n3, n4⟩ := nx_ok hP hw (i := i) (by omega) hL
  obtain ⟨V1, x, e1, a1, V2, e2, a2, F2⟩ := M_qt hP K (i := i) (by omega) hL hw
  have e12 : d_M_leftBy (on i) (on L) (wi w) (md P) V = d_M_leftBy_12 (on i) (on L) (wi w) (md P) (on (wb w)) V := by
    rw [d_M_leftBy]
    by_cases e : w = 0
    · subst e; rw [if_neg (fun h => h rfl)]; rfl
    · rw [if_pos (wi_ne e hw6), wb, if_neg e, wi, if_neg e, sh_on (by omega)]
  have hrow : ga V2 104 (1000 * (i + 1) + nxl P (wb w) i L) = on (bst P k (i + 1) (nxl P (wb w) i L)) := by
    rw [F2.ga 104 rfl, hT (i + 1) _ (Nat.le_refl _) (by omega) n2, show n - (i + 1) = k by omega]
  have hv := vld_lt (bst_vld hP k (i + 1) (nxl P (wb w) i L) (by omega) n2) (by omega)
  have e74 : (plF P = true ∧ (nxq P (wb w) i L).2 ≠ 0 → False) → d_M_leftBy_74 (on i) (wi w) (md P) (on (nxl P (wb w) i L)) V2 = some (on (cst P (bst P k (i + 1)) i L w), V2) := by
    intro hno
    rw [d_M_leftBy_74, on_s, show (1000 : Int32) = on 1000 from rfl, on_mul, on_add, if_pos (by rw [on_in (by omega)]; omega), on_nn (by omega), hrow, cst, if_neg hno]
    by_cases ei : bst P k (i + 1) (nxl P (wb w) i L) = 1000000000
    · rw [if_neg (fun h => h (by rw [ei]; rfl)), if_pos ei]; rfl
    · rw [if_pos (by rw [show (1000000000 : Int32) = on 1000000000 from rfl, on_inj (by omega) (by omega)]; exact ei), if_neg ei]
      have e113 : (if ¬ wi w = -1 then d_M_leftBy_113 (md P) (on (bst P k (i + 1) (nxl P (wb w) i L))) 1 V2 else d_M_leftBy_113 (md P) (on (bst P k (i + 1) (nxl P (wb w) i L))) 0 V2) = d_M_leftBy_113 (md P) (on (bst P k (i + 1) (nxl P (wb w) i L))) (on (w1 w)) V2 := by
        by_cases e : w = 0
        · subst e; rw [if_neg (fun h => h rfl)]; rfl
        · rw [if_pos (wi_ne e hw6), w1, if_neg e]; rfl
      rw [e113, d_M_leftBy_113, md]
      by_cases eF : plF P = true
      · rw [if_pos eF, if_pos rfl, if_pos eF, d_M_leftBy_144, show (10000 : Int32) = on 10000 from rfl, on_mul, on_add]
      · rw [if_neg eF, if_neg (by decide), if_neg eF, a2, bitCount_on _ n3, bd_some, d_M_leftBy_144, show (100 : Int32) = on 100 from rfl, on_mul, on_add, on_add]; rfl
  rw [e12, d_M_leftBy_12, show ((13 : Int32)).toNatClampNeg = 13 from rfl, K.2.2, on_add, e1, bd_some, a1, on_add, K.2.1, e2, bd_some]
  refine ⟨V2, ?_, F2⟩
  simp only []
  by_cases ed : (nxq P (wb w) i L).2 = 0
  · rw [if_pos (by rw [a2, ed]; rfl), e74 (fun h => h.2 ed)]
  · rw [if_neg (by rw [a2, zero_on, on_inj (by omega) (by omega)]; exact ed)]
    by_cases eF : plF P = true
    · rw [if_neg (fun h => h (by rw [md, if_pos eF])), cst, if_pos ⟨eF, ed⟩]; rfl
    · rw [if_pos (by rw [md, if_neg eF]; decide), e74 (fun h => eF h.1)]
def wLy : Fw := ([(89, 15), (89, 16), (89, 17), (89, 18), (89, 19), (89, 23), (89, 24), (89, 25), (89, 26), (89, 27), (89, 28), (89, 29)], [104])
/-- one place of the table -/
theorem M_82 {P : PL} {n i k L : Nat} (hP : PO P) (hn : n ≤ 12) (hik : i + (k + 1) = n) (hL : L ≤ plR P) {V : ai_V} (K : KQ V P) (hT : TM V P n (i + 1)) {F50 : Int32 → Int32 → Int32 → ai_V → Option ai_V} {F58 : Int32 → Int32 → Int32 → Int32 → ai_V → Option ai_V} :
    ∃ V', d_M_layRows_82 F50 F58 ai_N (on (plW P)) (md P) (on i) (on L) (on (cst P (bst P k (i + 1)) i L 0)) 0 V = F58 (on (plW P)) (md P) (on i) (on (L + 1)) (sa V' 104 (1000 * i + L) (on (bst P (k + 1) i L))) ∧ Fr wLf V V' := by
  have h6 := hP.1.1
  have hR := hP.2.2.2.1
  have h64 := Nat.lt_of_lt_of_le hP.2.2.2.2 (two_le h6)
  have hr : ∀ L, L ≤ plR P → vld P k (bst P k (i + 1) L) := fun L hL => bst_vld hP k (i + 1) L (by omega) hL
  refine loop_n (fun q (a : Int32) x V => d_M_layRows_82 F50 F58 q (on (plW P)) (md P) (on i) (on L) a x V)
    (fun c : ai_V => F58 (on (plW P)) (md P) (on i) (on (L + 1)) (sa c 104 (1000 * i + L) (on (bst P (k + 1) i L))))
    (fun j a V' => a = on (fo (fun j a => if (plW P).testBit j = true then min a (cst P (bst P k (i + 1)) i L (j + 1)) else a) j 0 (cst P (bst P k (i + 1)) i L 0)) ∧ vld P (k + 1) (fo (fun j a => if (plW P).testBit j = true then min a (cst P (bst P k (i + 1)) i L (j + 1)) else a) j 0 (cst P (bst P k (i + 1)) i L 0)) ∧ Fr wLf V V')
    (fun V' => Fr wLf V V') (hm P.1) ?_ ?_ (hm P.1) 0 ai_N _ V (by omega) (N_gt (by omega)) ⟨rfl, (cst_vld hP (by omega) hr (Or.inl rfl) (by omega) hL).1, Fr.rf⟩
  · rintro q _ j V1 hj ⟨rfl, hv, F1⟩
    have K1 := K.fr F1 rfl rfl
    show ∃ a' V', d_M_layRows_82 F50 F58 (q + 1) (on (plW P)) (md P) (on i) (on L) _ (on j) V1 = _ ∧ _
    rw [d_M_layRows_82, K1.1.2.1.1, if_neg (by rw [on_le (by omega) (by omega)]; omega), mhas_on h64 (by omega), bd_some, fo_s, Nat.zero_add]
    generalize fo (fun j a => if (plW P).testBit j = true then min a (cst P (bst P k (i + 1)) i L (j + 1)) else a) j 0 (cst P (bst P k (i + 1)) i L 0) = a at *
    by_cases e : (plW P).testBit j = true
    · have hgw : gw P (j + 1) := Or.inr ⟨by omega, by rw [Nat.add_sub_cancel]; exact e⟩
      obtain ⟨V2, e2, F2⟩ := M_left hP hn hik K1 (hT.fr F1 rfl) hL hgw
      have e2' : d_M_leftBy (on i) (on L) (on j) (md P) V1 = _ := e2
      have hc := (cst_vld hP (by omega) hr hgw (i := i) (by omega) hL).1
      have b1 := vld_lt hv (by omega)
      have b2 : cst P (bst P k (i + 1)) i L (j + 1) ≤ 1000000000 := vld_lt hc (by omega)
      rw [if_neg (by rw [tf_pos e]; decide), e2', bd_some, d_M_layRows_118, on_s, if_pos e]
      simp only []
      rw [min_on (by omega) (by omega)]
      exact ⟨_, V2, rfl, rfl, vld_min hv hc, Fr.tr F1 F2 rfl⟩
    · rw [if_pos (tf_neg e), d_M_layRows_118, on_s, if_neg e]
      exact ⟨_, V1, rfl, rfl, hv, F1⟩
  · rintro q _ V1 ⟨rfl, hv, F1⟩
    have K1 := K.fr F1 rfl rfl
    show ∃ c : ai_V, d_M_layRows_82 F50 F58 (q + 1) (on (plW P)) (md P) (on i) (on L) _ (on (hm P.1)) V1 = _ ∧ _
    rw [d_M_layRows_82, K1.1.2.1.1, if_pos (Int32.le_refl _), show (1000 : Int32) = on 1000 from rfl, on_mul, on_add, if_pos (by rw [on_in (by omega)]; omega), on_nn (by omega), on_s]
    exact ⟨V1, rfl, F1⟩
/-- one row of the table -/
theorem M_58 {P : PL} {n i k : Nat} (hP : PO P) (hn : n ≤ 12) (hik : i + (k + 1) = n) {V : ai_V} (K : KQ V P) (hT : TM V P n (i + 1)) {F50 : Int32 → Int32 → Int32 → ai_V → Option ai_V} :
    ∃ V', d_M_layRows_58 F50 ai_N (on (plW P)) (md P) (on i) 0 V = F50 (on (plW P)) (md P) (on i + (-1)) V' ∧ TM V' P n i ∧ Fr wLy V V' := by
  have h6 := hP.1.1
  have hR := hP.2.2.2.1
  refine loop_n (fun q (_ : Unit) x V => d_M_layRows_58 F50 q (on (plW P)) (md P) (on i) x V)
    (fun c : ai_V => F50 (on (plW P)) (md P) (on i + (-1)) c)
    (fun L _ V' => TM V' P n (i + 1) ∧ (∀ l, l < L → l ≤ plR P → ga V' 104 (1000 * i + l) = on (bst P (k + 1) i l)) ∧ Fr wLy V V')
    (fun V' => TM V' P n i ∧ Fr wLy V V') (plR P + 1) ?_ ?_ (plR P + 1) 0 ai_N () V (by omega) (N_gt (by omega)) ⟨hT, fun l hl => absurd hl (by omega), Fr.rf⟩
  · rintro q _ L V1 hL ⟨T1, r1, F1⟩
    have K1 := K.fr F1 rfl rfl
    obtain ⟨V2, e2, F2⟩ := M_left hP hn hik K1 T1 (show L ≤ plR P by omega) (Or.inl rfl)
    have e2' : d_M_leftBy (on i) (on L) (-1) (md P) V1 = _ := e2
    have K2 := K1.fr F2 rfl rfl
    have T2 := T1.fr F2 rfl
    obtain ⟨V3, e3, F3⟩ := M_82 hP hn hik (show L ≤ plR P by omega) K2 T2 (F50 := F50) (F58 := d_M_layRows_58 F50 q)
    show ∃ (a' : Unit) (V' : ai_V), d_M_layRows_58 F50 (q + 1) (on (plW P)) (md P) (on i) (on L) V1 = _ ∧ _
    rw [d_M_layRows_58, K1.2.1, if_neg (by rw [on_lt (by omega) (by omega)]; omega), e2', bd_some, e3]
    have F13 : Fr wLy V V3 := Fr.tr (Fr.tr F1 F2 rfl) F3 rfl
    refine ⟨(), _, rfl, fun i' L' h1 h2 h3 => ?_, fun l hl hl2 => ?_, Fr.sa F13 rfl⟩
    · rw [ga_sa, if_neg (fun h => by have := h.2; omega)]
      exact (T2.fr F3 rfl) i' L' h1 h2 h3
    · rw [ga_sa]
      by_cases e : l = L
      · rw [if_pos ⟨rfl, by omega⟩, e]
      · rw [if_neg (fun h => by have := h.2; omega), F3.ga 104 rfl, F2.ga 104 rfl]
        exact r1 l (by omega) hl2
  · rintro q _ V1 ⟨T1, r1, F1⟩
    have K1 := K.fr F1 rfl rfl
    show ∃ c : ai_V, d_M_layRows_58 F50 (q + 1) (on (plW P)) (md P) (on i) (on (plR P + 1)) V1 = _ ∧ _
    rw [d_M_layRows_58, K1.2.1, if_pos (by rw [on_lt (by omega) (by omega)]; omega)]
    refine ⟨V1, rfl, fun i' L' h1 h2 h3 => ?_, F1⟩
    by_cases e : i' = i
    · rw [e, r1 L' (by omega) h3, show n - i = k + 1 by omega]
    · exact T1 i' L' (by omega) h2 h3
theorem M_50 {P : PL} {n : Nat} (hP : PO P) (hn : n ≤ 12) : ∀ (r q : Nat) (V : ai_V), r ≤ n → r < q → KQ V P → TM V P n r → ∃ V', d_M_layRows_50 q (on (plW P)) (md P) (wi r) V = some V' ∧ TM V' P n 0 ∧ Fr wLy V V' := by
  intro r
  induction r with
  | zero =>
    intro q V hr hq K hT
    obtain ⟨q, rfl⟩ : ∃ n', q = n' + 1 := ⟨q - 1, by omega⟩
    rw [d_M_layRows_50, if_pos (by decide)]
    exact ⟨V, rfl, hT, Fr.rf⟩
  | succ r ih =>
    intro q V hr hq K hT
    obtain ⟨q, rfl⟩ : ∃ n', q = n' + 1 := ⟨q - 1, by omega⟩
    obtain ⟨V1, e1, T1, F1⟩ := M_58 hP hn (show r + (n - r - 1 + 1) = n by omega) K hT (F50 := d_M_layRows_50 q)
    have K1 := K.fr F1 rfl rfl
    obtain ⟨V2, e2, T2, F2⟩ := ih q V1 (by omega) (by omega) K1 T1
    have ew : on r + (-1) = wi r := by
      by_cases e : r = 0
      · subst e; rfl
      · rw [wi, if_neg e]
        obtain ⟨s, rfl⟩ : ∃ s, r = s + 1 := ⟨r - 1, by omega⟩
        rw [on_mm1]; rfl
    rw [ew] at e1
    show ∃ V', d_M_layRows_50 (q + 1) (on (plW P)) (md P) (on r) V = some V' ∧ _
    rw [d_M_layRows_50, if_neg (by rw [on_n0 (by omega)]; exact id), e1, e2]
    exact ⟨V2, rfl, T2, Fr.tr F1 F2 rfl⟩
theorem M_lay {P : PL} {n : Nat} (hP : PO P) (hn : n ≤ 12) (hn1 : 1 ≤ n) {V : ai_V} (K : KQ V P) : ∃ V', d_M_layRows (on (plW P)) (on n) (md P) V = some V' ∧ TM V' P n 0 ∧ Fr wLy V V' := by
  have hR := hP.2.2.2.1
  have := loop_n (fun q (_ : Unit) x V => d_M_layRows_3 q (on (plW P)) (on n) (md P) x V) (fun c : ai_V => d_M_layRows_50 ai_N (on (plW P)) (md P) (on n - 1) c)
    (fun L _ V' => (∀ l, l < L → l ≤ plR P → ga V' 104 (1000 * n + l) = on (bst P 0 n l)) ∧ Fr wLy V V') (fun V' => TM V' P n n ∧ Fr wLy V V') (plR P + 1) ?_ ?_ (plR P + 1) 0 ai_N () V (by omega) (N_gt (by omega)) ⟨fun l hl => absurd hl (by omega), Fr.rf⟩
  · obtain ⟨V1, e1, T1, F1⟩ := this
    have e1' : d_M_layRows_3 ai_N (on (plW P)) (on n) (md P) 0 V = d_M_layRows_50 ai_N (on (plW P)) (md P) (on n - 1) V1 := e1
    obtain ⟨V2, e2, T2, F2⟩ := M_50 hP hn n ai_N V1 (Nat.le_refl _) (N_gt (by omega)) (K.fr F1 rfl rfl) T1
    have ew : on n - 1 = wi n := by
      rw [wi, if_neg (by omega), one_on, on_sub (by omega)]
    rw [d_M_layRows, e1', ew, e2]
    exact ⟨V2, rfl, T2, Fr.tr F1 F2 rfl⟩
  · rintro q _ L V1 hL ⟨r1, F1⟩
    have K1 := K.fr F1 rfl rfl
    have e38 : (if md P = 0 then d_M_layRows_38 (d_M_layRows_3 q) (on (plW P)) (on n) (md P) (on L) ((999 : Int32) - on L) (((1000 : Int32) * on n) + on L) V1 else d_M_layRows_38 (d_M_layRows_3 q) (on (plW P)) (on n) (md P) (on L) (0 : Int32) (((1000 : Int32) * on n) + on L) V1) = d_M_layRows_38 (d_M_layRows_3 q) (on (plW P)) (on n) (md P) (on L) (on (bst P 0 n L)) (on (1000 * n + L)) V1 := by
      rw [show (1000 : Int32) = on 1000 from rfl, on_mul, on_add, bst, md]
      by_cases e : plF P = true
      · rw [if_pos e, if_pos rfl, if_pos e, show (999 : Int32) = on 999 from rfl, on_sub (by omega)]
      · rw [if_neg e, if_neg (by decide), if_neg e]; rfl
    show ∃ (a' : Unit) (V' : ai_V), d_M_layRows_3 (q + 1) (on (plW P)) (on n) (md P) (on L) V1 = _ ∧ _
    rw [d_M_layRows_3, K1.2.1, if_neg (by rw [on_lt (by omega) (by omega)]; omega), e38, d_M_layRows_38, if_pos (by rw [on_in (by omega)]; omega), on_nn (by omega), on_s]
    refine ⟨(), _, rfl, fun l hl hl2 => ?_, Fr.sa F1 rfl⟩
    rw [ga_sa]
    by_cases e : l = L
    · rw [if_pos ⟨rfl, by omega⟩, e]
    · rw [if_neg (fun h => by have := h.2; omega)]; exact r1 l (by omega) hl2
  · rintro q _ V1 ⟨r1, F1⟩
    have K1 := K.fr F1 rfl rfl
    show ∃ c : ai_V, d_M_layRows_3 (q + 1) (on (plW P)) (on n) (md P) (on (plR P + 1)) V1 = _ ∧ _
    rw [d_M_layRows_3, K1.2.1, if_pos (by rw [on_lt (by omega) (by omega)]; omega)]
    refine ⟨V1, rfl, fun i' L' h1 h2 h3 => ?_, F1⟩
    obtain rfl : i' = n := by omega
    rw [r1 L' (by omega) h3, Nat.sub_self]
