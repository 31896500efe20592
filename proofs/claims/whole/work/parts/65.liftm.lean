/-! ===== lifts, as the model asks ===== -/
def q12 (x : Int32) : Int32 := x - x / 12 * 12
theorem liftOf_eq {V : ai_V} {h : Hs} {f : Rf} (hO : HO h) (hM : MH V h) (hR : MR V f) {i b : Nat} (hi : i < hm h) (hb : b < 64) (lv wh br : Int32) : ∃ V', d_M_liftOf (on i) (on b) lv wh br V = some (lf h f i b lv (q12 wh) br, V') := by
  have h6 := hO.1
  rw [d_M_liftOf, mhas_eq, bd_some, lf]
  by_cases e : bt br (on i)
  · rw [if_neg (by rw [tf_pos e]; decide), if_pos e]; exact ⟨V, rfl⟩
  · rw [if_pos (tf_neg e), if_neg e, turnsM_eq hO hM hb, bd_some, if_pos (by rw [on_in (by omega)]; omega)]
    rcases hR with ⟨hr, hf⟩ | ⟨hr, hf⟩
    · rw [if_pos hr, hf]
      refine ⟨V, ?_⟩
      rw [d_M_liftOf_103, on_nn (by omega), hM.2.2.2.2.2.1]; rfl
    · rw [if_neg hr, d_M_begin_89_99, bd_some]
      generalize hV1 : si (si (si (si (sr V 89 15 (some 99)) 89 16 (gi V 89 22)) 89 17 (40 : Int32)) 89 18 (0 : Int32)) 89 19 (-1 : Int32) = V1
      have F1 : Fr ([(89, 15), (89, 16), (89, 17), (89, 18), (89, 19), (89, 23), (89, 24), (89, 25), (89, 26), (89, 27), (89, 28)], []) V V1 := by
        rw [← hV1]
        exact Fr.si (Fr.si (Fr.si (Fr.si (Fr.sr Fr.rf rfl (by decide)) rfl) rfl) rfl) rfl
      have M2 : MH (si (si V1 89 23 (1 : Int32)) 89 24 (on i)) h := hM.fr (Fr.si (Fr.si F1 rfl) rfl) rfl
      rw [turnsM_eq hO M2 hb, bd_some, bitCount_on b hb, bd_some]
      generalize hV2 : (si (si (si (si (si (si V1 89 23 (1 : Int32)) 89 24 (on i)) 89 25 (tn h b)) 89 26 lv) 89 27 (on (popc b))) 89 28 (wh - wh / (12 : Int32) * (12 : Int32))) = V2
      have F2 : Fr ([(89, 15), (89, 16), (89, 17), (89, 18), (89, 19), (89, 23), (89, 24), (89, 25), (89, 26), (89, 27), (89, 28)], []) V V2 := by
        rw [← hV2]
        exact Fr.si (Fr.si (Fr.si (Fr.si (Fr.si (Fr.si F1 rfl) rfl) rfl) rfl) rfl) rfl
      have M3 := hM.fr F2 rfl
      have g24 : gi V2 89 24 = on i := by rw [← hV2]; simp [gi_si]
      obtain ⟨v, V3, hV3, hv⟩ := hf V2 (F2.gi 89 22 rfl) (F2.ga 99 rfl) (by
        refine ⟨?_, ?_, ?_, ?_, ?_, ?_, ?_⟩
        · rw [← hV2, ← hV1]; simp [gr_si, gr_sr]
        · rw [← hV2, ← hV1]; simp [gi_si, gi_sr]
        · rw [← hV2, ← hV1]; simp [gi_si, gi_sr]
        · rw [← hV2, ← hV1]; simp [gi_si, gi_sr]
        · rw [← hV2, ← hV1]; simp [gi_si, gi_sr]
        · rw [← hV2]; simp [gi_si]
        · rw [g24, on_in (by omega)]; omega)
      rw [hV3, bd_some]
      refine ⟨si V3 89 23 (0 : Int32), ?_⟩
      rw [d_M_liftOf_103]
      have : clp v = clp (f (tn h b) (hpc h i) (hwt h i) lv (on (popc b)) (q12 wh) (hst h i)) := by
        rw [hv, g24, on_nn (by omega), M3.2.2.2.1, M3.2.2.2.2.1, M3.2.2.2.2.2.1]
        congr 2
        all_goals first | rfl | (rw [← hV2]; simp [gi_si, q12])
      rw [← this]; rfl
theorem liftOfAll_eq {V : ai_V} {h : Hs} {f : Rf} (hO : HO h) (hM : MH V h) (hR : MR V f) {b : Nat} (hb : b < 64) (lv wh : Int32) : ∃ V', d_M_liftOfAll (on b) lv wh V = some (LA h f b lv (q12 wh) (hbr h), V') := by
  have h6 := hO.1
  have := loop_k (fun n (a : Int32 × Int32 × ai_V) => d_M_liftOfAll_6 n (on b) lv wh a.1 a.2.1 a.2.2) (fun c : Int32 × ai_V => some c)
    (fun a => ∃ i, i ≤ hm h ∧ a.2.1 = on i ∧ a.1 = fo (fun i a => a + (if b.testBit i = true then lf h f i b lv (q12 wh) (hbr h) else 0)) i 0 0 ∧ Fr w_M_liftOf V a.2.2)
    (fun c => c.1 = LA h f b lv (q12 wh) (hbr h)) (fun a => hm h - a.2.1.toNatClampNeg) ?_ ai_N (0, on 0, V) ⟨0, by omega, rfl, rfl, Fr.rf⟩ (N_gt (by show hm h - _ < _; omega))
  · obtain ⟨c, e, hc⟩ := this
    refine ⟨c.2, ?_⟩
    rw [d_M_liftOfAll]
    rw [← hc]
    exact e
  · rintro n ⟨a, x, V1⟩ ⟨i, hi, rfl, ha, hF⟩
    have M1 := hM.fr hF rfl
    have R1 := hR.fr hF rfl
    simp only at ha
    show (∃ a', d_M_liftOfAll_6 (n + 1) (on b) lv wh a (on i) V1 = _ ∧ _) ∨ (∃ c, d_M_liftOfAll_6 (n + 1) (on b) lv wh a (on i) V1 = _ ∧ _)
    rw [d_M_liftOfAll_6, M1.1]
    by_cases e : i < hm h
    · left
      rw [if_neg (by rw [on_le (by omega) (by omega)]; omega), mhas_on hb (by omega), bd_some]
      have mu : hm h - (on (i + 1)).toNatClampNeg < hm h - (on i).toNatClampNeg := by rw [on_nn (by omega), on_nn (by omega)]; omega
      by_cases e2 : b.testBit i = true
      · rw [if_neg (by rw [tf_pos e2]; decide), M1.2.2.1]
        obtain ⟨V2, hV2⟩ := liftOf_eq hO M1 R1 e hb lv wh (hbr h)
        have F2 := fr_M_liftOf _ _ _ _ _ _ _ hV2
        rw [hV2, bd_some, d_M_liftOfAll_43, on_s]
        refine ⟨(a + lf h f i b lv (q12 wh) (hbr h), on (i + 1), V2), rfl, ⟨i + 1, by omega, rfl, ?_, Fr.tr hF F2 rfl⟩, mu⟩
        rw [fo_s, Nat.zero_add, ← ha, if_pos e2]
      · rw [if_pos (tf_neg e2), d_M_liftOfAll_43, on_s]
        refine ⟨(a + 0, on (i + 1), V1), rfl, ⟨i + 1, by omega, rfl, ?_, hF⟩, mu⟩
        rw [fo_s, Nat.zero_add, ← ha, if_neg e2]
    · right
      obtain rfl : i = hm h := by omega
      rw [if_pos (Int32.le_refl _)]
      exact ⟨(a, V1), rfl, ha⟩
theorem liftNow_eq {V : ai_V} {h : Hs} {f : Rf} (hO : HO h) (hM : MH V h) (hR : MR V f) {b : Nat} (hb : b < 64) : ∃ V', d_M_liftNow (on b) V = some (LA h f b (ga V 90 12) (q12 (ga V 90 13)) (hbr h), V') := by
  obtain ⟨V1, h1⟩ := liftOfAll_eq hO hM hR hb (ga V 90 12) (ga V 90 13)
  refine ⟨V1, ?_⟩
  rw [d_M_liftNow]
  show (d_M_liftOfAll (on b) (ga V 90 12) (ga V 90 13) V).bind _ = _
  rw [h1]; rfl
