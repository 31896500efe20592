/-! ===== sign, end ===== -/
def sgB (x : Int32) (s : Nat) : Int32 := (x.toUInt32 >>> ((on s).toUInt32 &&& Int32.toUInt32 31)).toInt32 &&& 255
theorem and255 (y : Int32) : 0 ≤ (y &&& 255).toInt ∧ (y &&& 255).toInt ≤ 255 := by
  have h1 : (y &&& 255).toBitVec = y.toBitVec &&& 255#32 := rfl
  have h2 : (y.toBitVec &&& 255#32).toNat ≤ 255 := by rw [BitVec.toNat_and]; exact Nat.and_le_right
  have h3 : (y &&& 255).toInt = ((y.toBitVec &&& 255#32).toNat : Int) := by
    show (y &&& 255).toBitVec.toInt = _
    rw [h1, BitVec.toInt_eq_toNat_of_lt (by omega)]
  omega
theorem sgB_rng (x : Int32) (s : Nat) : 0 ≤ (sgB x s).toInt ∧ (sgB x s).toInt ≤ 255 := and255 _
theorem b255 : ∀ i, i < 8 → (255#32).getLsbD i = true := by decide
theorem sgB_b {x : Int32} {a b : BitVec 32} {s i : Nat} (hs : s ≤ 24) (ha : a = (x.toBitVec.ushiftRight s) &&& 255#32) (hb : b = x.toBitVec.sshiftRight s) (hi : i < 8) : a.getLsbD i = b.getLsbD i := by
  have e1 : a.getLsbD i = x.toBitVec.getLsbD (s + i) := by
    rw [ha, BitVec.getLsbD_and, b255 i hi, Bool.and_true]
    exact BitVec.getLsbD_ushiftRight x.toBitVec s i
  have e2 : b.getLsbD i = x.toBitVec.getLsbD (s + i) := by
    rw [hb, BitVec.getLsbD_sshiftRight, if_pos (by omega), show decide (32 ≤ i) = false from decide_eq_false (by omega)]; rfl
  rw [e1, e2]
theorem sgB_x (x : Int32) (k : Nat) (hk : k < 4) : sx (sgB x (8 * k)) = vp_nar .byte ((x >>> ((on (8 * k)) &&& 31)).toInt8.toInt32) := by
  have h1 : vp_nar .byte ((x >>> ((on (8 * k)) &&& 31)).toInt8.toInt32) = (x >>> ((on (8 * k)) &&& 31)).toInt8.toInt32 := by
    show (((x >>> ((on (8 * k)) &&& 31)).toInt8.toInt32).toInt8).toInt32 = _
    rw [Int8.toInt8_toInt32]
  rw [h1]
  show (sgB x (8 * k)).toInt8.toInt32 = _
  congr 1
  apply Int8.toBitVec_inj.mp
  have hb : ∀ i, i < 8 → (sgB x (8 * k)).toBitVec.getLsbD i = (x >>> ((on (8 * k)) &&& 31)).toBitVec.getLsbD i := by
    intro i hi
    rcases (show k = 0 ∨ k = 1 ∨ k = 2 ∨ k = 3 by omega) with e | e | e | e <;> subst e
    · exact sgB_b (s := 0) (by omega) rfl rfl hi
    · exact sgB_b (s := 8) (by omega) rfl rfl hi
    · exact sgB_b (s := 16) (by omega) rfl rfl hi
    · exact sgB_b (s := 24) (by omega) rfl rfl hi
  apply BitVec.eq_of_getLsbD_eq
  intro i hi
  show ((sgB x (8 * k)).toBitVec.signExtend 8).getLsbD i = ((x >>> ((on (8 * k)) &&& 31)).toBitVec.signExtend 8).getLsbD i
  rw [BitVec.getLsbD_signExtend, BitVec.getLsbD_signExtend, if_pos (by omega), if_pos (by omega), hb i hi]
theorem sgX {V : ai_V} {m : Nat} (h : gi V 1 1 = on m) (hm : m < 80) (q k : Nat) (x : Int32) (y : Int32) (hk : on (8 * k) + (-8 : Int32) = y) (h24 : k < 4) : d_Text_add_16 (q + 1) x (on (8 * k)) V = d_Text_add_16 q x y (si (sa V 2 m (sgB x (8 * k))) 1 1 (on (m + 1))) := by
  rw [d_Text_add_16, if_neg (by rw [on_n0 (by omega)]; exact id), h, if_pos (by rw [on_in (by omega)]; omega), on_nn (by omega), gi_sa, h, on_s, hk]
  rfl
theorem sgM {V : ai_V} {m : Nat} (h : gi V 89 11 = on m) (hm : m < 80) (q k : Nat) (x : Int32) (y : Int32) (hk : on k + (-1 : Int32) = y) (h24 : k < 4) : d_M_sign_20 (q + 1) x (on k) V = d_M_sign_20 q x y (sa (si V 89 11 (on (m + 1))) 96 m (vp_nar .byte ((x >>> ((on (8 * k)) &&& 31)).toInt8.toInt32))) := by
  rw [d_M_sign_20, if_neg (by rw [on_n0 (by omega)]; exact id), h, if_pos (by rw [on_in (by omega)]; omega), on_nn (by omega), on_s, hk, show (8 : Int32) = on 8 from rfl, on_mul]
theorem X_sign {V : ai_V} {n : Nat} (h1 : gi V 1 1 = on n) (x : Int32) (hn : n + 4 ≤ 80) : ∃ V', d_X_sign x V = some (on (n + 4), V') ∧ gi V' 1 1 = on (n + 4) ∧ (∀ i, ga V' 2 i = if n ≤ i ∧ i < n + 4 then sgB x (8 * (n + 3 - i)) else ga V 2 i) ∧ Fr ([(1, 1)], [2]) V V' := by
  have g : ∀ (W : ai_V) (m : Nat) (y : Int32), gi (si (sa W 2 m y) 1 1 (on (m + 1))) 1 1 = on (m + 1) := fun W m y => by rw [gi_si, if_pos ⟨rfl, rfl⟩]
  have a : ∀ (W : ai_V) (m : Nat) (y : Int32) (i : Nat), ga (si (sa W 2 m y) 1 1 (on (m + 1))) 2 i = if i = m then y else ga W 2 i := by
    intro W m y i
    rw [ga_si, ga_sa]
    by_cases e : i = m
    · rw [if_pos ⟨rfl, e⟩, if_pos e]
    · rw [if_neg (fun h => e h.2), if_neg e]
  have F : ∀ (W : ai_V) (m : Nat) (y : Int32), Fr ([(1, 1)], [2]) W (si (sa W 2 m y) 1 1 (on (m + 1))) := fun W m y => Fr.si (Fr.sa Fr.rf rfl) rfl
  rw [d_X_sign, d_Text_add, h1, show (4 : Int32) = on 4 from rfl, on_add, if_pos (by rw [show (80 : Int32) = on 80 from rfl, on_le (by omega) (by omega)]; exact hn)]
  rw [show d_Text_add_16 ai_N x 24 V = d_Text_add_16 (19999 + 1) x (on (8 * 3)) V from rfl, sgX h1 (by omega) 19999 3 x (on (8 * 2)) rfl (by omega)]
  generalize hA : si (sa V 2 n (sgB x (8 * 3))) 1 1 (on (n + 1)) = A
  have gA : gi A 1 1 = on (n + 1) := by rw [← hA]; exact g _ _ _
  have aA : ∀ i, ga A 2 i = if i = n then sgB x (8 * 3) else ga V 2 i := by rw [← hA]; exact a _ _ _
  have FA : Fr ([(1, 1)], [2]) V A := by rw [← hA]; exact F _ _ _
  rw [show d_Text_add_16 19999 x (on (8 * 2)) A = d_Text_add_16 (19998 + 1) x (on (8 * 2)) A from rfl, sgX gA (by omega) 19998 2 x (on (8 * 1)) rfl (by omega)]
  generalize hB : si (sa A 2 (n + 1) (sgB x (8 * 2))) 1 1 (on (n + 1 + 1)) = B
  have gB : gi B 1 1 = on (n + 2) := by rw [← hB]; exact g _ _ _
  have aB : ∀ i, ga B 2 i = if i = n + 1 then sgB x (8 * 2) else ga A 2 i := by rw [← hB]; exact a _ _ _
  have FB : Fr ([(1, 1)], [2]) V B := by rw [← hB]; exact Fr.tr FA (F _ _ _) rfl
  rw [show d_Text_add_16 19998 x (on (8 * 1)) B = d_Text_add_16 (19997 + 1) x (on (8 * 1)) B from rfl, sgX gB (by omega) 19997 1 x (on (8 * 0)) rfl (by omega)]
  generalize hC : si (sa B 2 (n + 2) (sgB x (8 * 1))) 1 1 (on (n + 2 + 1)) = C
  have gC : gi C 1 1 = on (n + 3) := by rw [← hC]; exact g _ _ _
  have aC : ∀ i, ga C 2 i = if i = n + 2 then sgB x (8 * 1) else ga B 2 i := by rw [← hC]; exact a _ _ _
  have FC : Fr ([(1, 1)], [2]) V C := by rw [← hC]; exact Fr.tr FB (F _ _ _) rfl
  rw [show d_Text_add_16 19997 x (on (8 * 0)) C = d_Text_add_16 (19996 + 1) x (on (8 * 0)) C from rfl, sgX gC (by omega) 19996 0 x (-8) rfl (by omega)]
  generalize hD : si (sa C 2 (n + 3) (sgB x (8 * 0))) 1 1 (on (n + 3 + 1)) = D
  have gD : gi D 1 1 = on (n + 4) := by rw [← hD]; exact g _ _ _
  have aD : ∀ i, ga D 2 i = if i = n + 3 then sgB x (8 * 0) else ga C 2 i := by rw [← hD]; exact a _ _ _
  have FD : Fr ([(1, 1)], [2]) V D := by rw [← hD]; exact Fr.tr FC (F _ _ _) rfl
  rw [show d_Text_add_16 19996 x (-8) D = d_Text_add_16 (19995 + 1) x (-8) D from rfl, d_Text_add_16, if_pos (by decide), bd_some, gD]
  refine ⟨D, rfl, gD, fun i => ?_, FD⟩
  rw [aD, aC, aB, aA]
  by_cases e3 : i = n + 3
  · rw [if_pos e3, if_pos (by omega), show n + 3 - i = 0 by omega]
  · rw [if_neg e3]
    by_cases e2 : i = n + 2
    · rw [if_pos e2, if_pos (by omega), show n + 3 - i = 1 by omega]
    · rw [if_neg e2]
      by_cases e1 : i = n + 1
      · rw [if_pos e1, if_pos (by omega), show n + 3 - i = 2 by omega]
      · rw [if_neg e1]
        by_cases e0 : i = n
        · rw [if_pos e0, if_pos (by omega), show n + 3 - i = 3 by omega]
        · rw [if_neg e0, if_neg (by omega)]
theorem M_sign {V : ai_V} {n : Nat} (h1 : gi V 89 11 = on n) (x : Int32) (hn : n + 4 ≤ 80) : ∃ V', d_M_sign_20 ai_N x 3 V = some (on (n + 4), V') ∧ gi V' 89 11 = on (n + 4) ∧ (∀ i, ga V' 96 i = if n ≤ i ∧ i < n + 4 then vp_nar .byte ((x >>> ((on (8 * (n + 3 - i))) &&& 31)).toInt8.toInt32) else ga V 96 i) ∧ Fr ([(89, 11)], [96]) V V' := by
  have g : ∀ (W : ai_V) (m : Nat) (y : Int32), gi (sa (si W 89 11 (on (m + 1))) 96 m y) 89 11 = on (m + 1) := fun W m y => by rw [gi_sa, gi_si, if_pos ⟨rfl, rfl⟩]
  have a : ∀ (W : ai_V) (m : Nat) (y : Int32) (i : Nat), ga (sa (si W 89 11 (on (m + 1))) 96 m y) 96 i = if i = m then y else ga W 96 i := by
    intro W m y i
    rw [ga_sa, ga_si]
    by_cases e : i = m
    · rw [if_pos ⟨rfl, e⟩, if_pos e]
    · rw [if_neg (fun h => e h.2), if_neg e]
  have F : ∀ (W : ai_V) (m : Nat) (y : Int32), Fr ([(89, 11)], [96]) W (sa (si W 89 11 (on (m + 1))) 96 m y) := fun W m y => Fr.sa (Fr.si Fr.rf rfl) rfl
  rw [show d_M_sign_20 ai_N x 3 V = d_M_sign_20 (19999 + 1) x (on 3) V from rfl, sgM h1 (by omega) 19999 3 x (on 2) rfl (by omega)]
  generalize hA : sa (si V 89 11 (on (n + 1))) 96 n (vp_nar .byte ((x >>> ((on (8 * 3)) &&& 31)).toInt8.toInt32)) = A
  have gA : gi A 89 11 = on (n + 1) := by rw [← hA]; exact g _ _ _
  have aA : ∀ i, ga A 96 i = if i = n then vp_nar .byte ((x >>> ((on (8 * 3)) &&& 31)).toInt8.toInt32) else ga V 96 i := by rw [← hA]; exact a _ _ _
  have FA : Fr ([(89, 11)], [96]) V A := by rw [← hA]; exact F _ _ _
  rw [show d_M_sign_20 19999 x (on 2) A = d_M_sign_20 (19998 + 1) x (on 2) A from rfl, sgM gA (by omega) 19998 2 x (on 1) rfl (by omega)]
  generalize hB : sa (si A 89 11 (on (n + 1 + 1))) 96 (n + 1) (vp_nar .byte ((x >>> ((on (8 * 2)) &&& 31)).toInt8.toInt32)) = B
  have gB : gi B 89 11 = on (n + 2) := by rw [← hB]; exact g _ _ _
  have aB : ∀ i, ga B 96 i = if i = n + 1 then vp_nar .byte ((x >>> ((on (8 * 2)) &&& 31)).toInt8.toInt32) else ga A 96 i := by rw [← hB]; exact a _ _ _
  have FB : Fr ([(89, 11)], [96]) V B := by rw [← hB]; exact Fr.tr FA (F _ _ _) rfl
  rw [show d_M_sign_20 19998 x (on 1) B = d_M_sign_20 (19997 + 1) x (on 1) B from rfl, sgM gB (by omega) 19997 1 x (on 0) rfl (by omega)]
  generalize hC : sa (si B 89 11 (on (n + 2 + 1))) 96 (n + 2) (vp_nar .byte ((x >>> ((on (8 * 1)) &&& 31)).toInt8.toInt32)) = C
  have gC : gi C 89 11 = on (n + 3) := by rw [← hC]; exact g _ _ _
  have aC : ∀ i, ga C 96 i = if i = n + 2 then vp_nar .byte ((x >>> ((on (8 * 1)) &&& 31)).toInt8.toInt32) else ga B 96 i := by rw [← hC]; exact a _ _ _
  have FC : Fr ([(89, 11)], [96]) V C := by rw [← hC]; exact Fr.tr FB (F _ _ _) rfl
  rw [show d_M_sign_20 19997 x (on 0) C = d_M_sign_20 (19996 + 1) x (on 0) C from rfl, sgM gC (by omega) 19996 0 x (-1) rfl (by omega)]
  generalize hD : sa (si C 89 11 (on (n + 3 + 1))) 96 (n + 3) (vp_nar .byte ((x >>> ((on (8 * 0)) &&& 31)).toInt8.toInt32)) = D
  have gD : gi D 89 11 = on (n + 4) := by rw [← hD]; exact g _ _ _
  have aD : ∀ i, ga D 96 i = if i = n + 3 then vp_nar .byte ((x >>> ((on (8 * 0)) &&& 31)).toInt8.toInt32) else ga C 96 i := by rw [← hD]; exact a _ _ _
  have FD : Fr ([(89, 11)], [96]) V D := by rw [← hD]; exact Fr.tr FC (F _ _ _) rfl
  rw [show d_M_sign_20 19996 x (-1) D = d_M_sign_20 (19995 + 1) x (-1) D from rfl, d_M_sign_20, if_pos (by decide), gD]
  refine ⟨D, rfl, gD, fun i => ?_, FD⟩
  rw [aD, aC, aB, aA]
  by_cases e3 : i = n + 3
  · rw [if_pos e3, if_pos (by omega), show n + 3 - i = 0 by omega]
  · rw [if_neg e3]
    by_cases e2 : i = n + 2
    · rw [if_pos e2, if_pos (by omega), show n + 3 - i = 1 by omega]
    · rw [if_neg e2]
      by_cases e1 : i = n + 1
      · rw [if_pos e1, if_pos (by omega), show n + 3 - i = 2 by omega]
      · rw [if_neg e1]
        by_cases e0 : i = n
        · rw [if_pos e0, if_pos (by omega), show n + 3 - i = 3 by omega]
        · rw [if_neg e0, if_neg (by omega)]
theorem st_sign {N : Nat} {V : ai_V} (hI : Inv N V) (hN : N < 512) (x : Int32) : Step N V (d_X_sign x) (d_M_sign x) := by
  have hI0 := hI
  obtain ⟨h, f, z, rm, h1, h2, h3, h4, h5, h6, h7, h8, h9, h10⟩ := hI
  obtain ⟨n, n80, t1, t2, tx⟩ := h1
  by_cases e : n + 4 ≤ 80
  · obtain ⟨V1, e1, g1, a1, F1⟩ := X_sign t1 x e
    obtain ⟨V2, e2, g2, a2, F2⟩ := M_sign (V := si V1 89 14 0) (by rw [m14 _ _ 89 11 (by decide), F1.gi 89 11 rfl]; exact t2) x e
    have F12 : Fr ([(89, 14), (89, 11)], [96]) V1 V2 := Fr.tr (Fr.si Fr.rf rfl) F2 rfl
    have F : Fr ([(1, 1), (89, 14), (89, 11)], [2, 96]) V V2 := Fr.tr (Fr.tr Fr.rf F1 rfl) F12 rfl
    refine ⟨on (n + 4), V1, V2, e1, ?_, h, f, z, rm, ⟨n + 4, e, by rw [F12.gi 1 1 rfl]; exact g1, g2, fun i => ?_⟩, h2.sm (Sm.of F rfl), h3.sm (Sm.of F rfl), h4.sm (Sm.of F rfl) (by omega), h5.sm (Sm.of F rfl), h6.sm (Sm.of F rfl) (by omega), h7.sm (Sm.of F rfl) (by omega), h8.sm (Sm.of F rfl), h9.sm (Sm.of F rfl), h10.sm (Sm.of F rfl)⟩
    · rw [d_M_sign, m14 _ _ 89 11 (by decide), F1.gi 89 11 rfl, t2, show (4 : Int32) = on 4 from rfl, on_add, if_pos (by rw [show (80 : Int32) = on 80 from rfl, on_le (by omega) (by omega)]; exact e), e2]
    · rw [F12.ga 2 rfl, a1, a2]
      by_cases c : n ≤ i ∧ i < n + 4
      · rw [if_pos c, if_pos c]
        exact ⟨(sgB_x x (n + 3 - i) (by omega)).symm, sgB_rng _ _⟩
      · rw [if_neg c, if_neg c, ga_si, F1.ga 96 rfl]; exact tx i
  · refine ⟨-1, V, si V 89 14 0, ?_, ?_, hI0.no 0⟩
    · rw [d_X_sign, d_Text_add, t1, show (4 : Int32) = on 4 from rfl, on_add, if_neg (by rw [show (80 : Int32) = on 80 from rfl, on_le (by omega) (by omega)]; exact e)]; rfl
    · rw [d_M_sign, m14 _ _ 89 11 (by decide), t2, show (4 : Int32) = on 4 from rfl, on_add, if_neg (by rw [show (80 : Int32) = on 80 from rfl, on_le (by omega) (by omega)]; exact e)]
theorem st_end {N : Nat} {V : ai_V} (hI : Inv N V) (hN : N < 512) (x : Int32) : Step N V (d_X_end x) (d_M_end x) := by
  have hI0 := hI
  obtain ⟨h, f, z, rm, h1, h2, h3, h4, h5, h6, h7, h8, h9, h10⟩ := hI
  obtain ⟨n, n80, t1, t2, tx⟩ := h1
  by_cases e : 0 ≤ x ∧ x ≤ on n
  · have F1 : Fr ([(1, 1)], []) V (si V 1 1 x) := Fr.si Fr.rf rfl
    have F12 : Fr ([(89, 14), (89, 11)], []) (si V 1 1 x) (si (si (si V 1 1 x) 89 14 0) 89 11 x) := Fr.si (Fr.si Fr.rf rfl) rfl
    have F : Fr ([(1, 1), (89, 14), (89, 11)], []) V (si (si (si V 1 1 x) 89 14 0) 89 11 x) := Fr.tr (Fr.tr Fr.rf F1 rfl) F12 rfl
    have ex := on_of e.1
    have el := e.2
    rw [← ex, on_le x.toNatClampNeg_lt (by omega)] at el
    refine ⟨1, si V 1 1 x, si (si (si V 1 1 x) 89 14 0) 89 11 x, ?_, ?_, h, f, z, rm, ⟨x.toNatClampNeg, by omega, ?_, ?_, fun i => ?_⟩, h2.sm (Sm.of F rfl), h3.sm (Sm.of F rfl), h4.sm (Sm.of F rfl) (by omega), h5.sm (Sm.of F rfl), h6.sm (Sm.of F rfl) (by omega), h7.sm (Sm.of F rfl) (by omega), h8.sm (Sm.of F rfl), h9.sm (Sm.of F rfl), h10.sm (Sm.of F rfl)⟩
    · rw [d_X_end, d_Text_cut, if_neg (nlt.mpr e.1), t1, if_pos e.2]; rfl
    · rw [d_M_end, m14 _ _ 89 11 (by decide), F1.gi 89 11 rfl, t2, in_eq, bd_some, if_pos (by rw [tf_pos e]; decide)]
    · rw [F12.gi 1 1 rfl, gi_si, if_pos ⟨rfl, rfl⟩, ex]
    · rw [gi_si, if_pos ⟨rfl, rfl⟩, ex]
    · exact tx i
  · refine ⟨0, V, si V 89 14 0, ?_, ?_, hI0.no 0⟩
    · rw [d_X_end, d_Text_cut, t1]
      by_cases e1 : x < 0
      · rw [if_pos e1]; rfl
      · rw [if_neg e1, if_neg (fun e2 => e ⟨nlt.mp e1, e2⟩)]; rfl
    · rw [d_M_end, m14 _ _ 89 11 (by decide), t2, in_eq, bd_some, if_neg (fun hn => hn (tf_neg e))]
