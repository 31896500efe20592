/-! ===== fewest, driest ===== -/
def wX2 : Fw := ([(64, 2), (15, 2), (15, 3), (15, 4), (15, 5), (65, 0), (65, 1), (64, 3), (64, 4), (64, 5), (64, 6), (65, 2), (22, 1)], [119, 12, 13, 66, 67, 23])
def wM2 : Fw := ([(89, 14), (89, 13), (89, 15), (89, 16), (89, 17), (89, 18), (89, 19), (89, 23), (89, 24), (89, 25), (89, 26), (89, 27), (89, 28), (89, 29)], [97, 104])
theorem Inv.pl {N : Nat} {V V1 V2 : ai_V} (hI : Inv N V) (F1 : Fr wX2 V V1) (F2 : Fr wM2 V1 V2) (hg : gr V1 64 2 = some 119) {o : Option (List Int64)} (ho : ∀ r, o = some r → r.length ≤ 12) (c : cRo V V1 o) (m : mRo V1 V2 o) : Inv (N + 1) V2 ∧ gr V2 64 2 = some 119 := by
  have t1 := Sm.of (c := ([(89, 30), (89, 31), (89, 15)], [])) F1 rfl
  have t2 := Sm.of (c := ([(89, 30), (89, 31), (64, 2)], [])) F2 rfl
  have h15 := F2.2.2
  unfold R15 at h15
  have g2 : gr V2 64 2 = some 119 := by rw [t2.r 64 2 rfl]; exact hg
  obtain ⟨x1, x2, x3, x4⟩ := hI.x
  refine ⟨hI.qq F1 F2 rfl rfl rfl rfl ho c m ⟨?_, ?_, Or.inr g2, ?_⟩, g2⟩
  · rw [t2.i 89 30 rfl, t1.i 89 30 rfl, x1]
  · rw [t2.i 89 31 rfl, t1.i 89 31 rfl, x2]
  · rcases h15 with h | h | h
    · rw [h, t1.r 89 15 rfl]; exact x4
    · exact Or.inr (Or.inl h)
    · exact Or.inr (Or.inr h)
theorem pl_step {N : Nat} {V : ai_V} (hI : Inv N V) (hN : N < 512) (x y : Int32) (F : Bool) :
    (d_no_fewest x y V = some () ∧ d_no_driest x y V = some () ∧ d_M_fewest x y V = some (-1, si V 89 14 0) ∧ d_M_driest x y V = some (-1, si V 89 14 0)) ∨
    (d_House_hasAll x V = some 1 ∧ ¬ y < 1 ∧ y ≤ 12 ∧ ∀ W, Fr ([(64, 2)], [119]) V W → gr W 64 2 = some 119 → ∃ v V1 V2, ((d_Plan_leastCost_17 x y (tf (F = true)) W).bind fun q3 => if F = true then d_X_fewest_38 q3.1 q3.2 else d_X_driest_38 q3.1 q3.2) = some (v, V1) ∧ (F = true → d_M_fewest x y V1 = some (v, V2)) ∧ (¬ F = true → d_M_driest x y V1 = some (v, V2)) ∧ Inv (N + 1) V2 ∧ gr V2 64 2 = some 119) := by
  obtain ⟨h, f, z, rm, nw, kc, km, hS, hn, hb⟩ := hI.k
  have hO := kc.1
  have h6 := hO.1
  by_cases hx : 0 ≤ x ∧ x < on (2 ^ hm h)
  · by_cases hy : 1 ≤ y ∧ y ≤ 12
    · refine Or.inr ⟨by rw [hasAll_eq hO kc.2.1, tf_pos hx], nlt.mpr hy.1, hy.2, fun W FW gW => ?_⟩
      obtain ⟨B, hB, rfl⟩ := those_on hO hx
      obtain ⟨n, n1, n2, rfl⟩ : ∃ n, 1 ≤ n ∧ n ≤ 12 ∧ y = on n := by
        have h1 := ti_le.mp hy.1
        have h2 := ti_le.mp hy.2
        have e1 : (1 : Int32).toInt = 1 := rfl
        have e2 : (12 : Int32).toInt = 12 := rfl
        have := ti_nn y
        refine ⟨y.toNatClampNeg, by omega, by omega, (on_of (by rw [ti_le]; show (0 : Int) ≤ _; omega)).symm⟩
      obtain ⟨s1, s2, s3, s4, s5, s6, s7, s8⟩ := hS
      obtain ⟨R, R1, R2, rfl⟩ : ∃ R, 1 ≤ R ∧ R ≤ 999 ∧ rm = on R := by
        have := ti_nn rm
        refine ⟨rm.toNatClampNeg, by omega, by omega, (on_of (by rw [ti_le]; show (0 : Int) ≤ _; omega)).symm⟩
      have eR := on_ti (show R < 2147483648 by omega)
      obtain ⟨l, l1, el⟩ : ∃ l, l ≤ R ∧ z.2.1 = on l := by
        have := ti_nn z.2.1
        have := s1.2.1.1
        refine ⟨z.2.1.toNatClampNeg, by omega, (on_of (by rw [ti_le]; show (0 : Int) ≤ _; omega)).symm⟩
      have hP : PO (h, f, nw, R, B, F) := ⟨hO, by show nw < 1000000; omega, R1, R2, hB⟩
      have hFF : plF (h, f, nw, R, B, F) = F := rfl
      obtain ⟨V1, e1, c1, F1⟩ := X_pl (P := (h, f, nw, R, B, F)) (n := n) (l := l) (V := W) hP n2 l1 (kc.fr FW rfl) gW (by rw [FW.gi 16 0 rfl, s2.1, hn]) (by rw [FW.gi 16 1 rfl, s2.2.1, el]) (by rw [FW.gi 16 2 rfl]; exact s4)
      have F01 : Fr wX2 V V1 := Fr.tr (Fr.tr Fr.rf FW rfl) F1 rfl
      have g1 : gr V1 64 2 = some 119 := by
        have t := Sm.of (c := ([(64, 2)], [])) F1 rfl
        rw [t.r 64 2 rfl]; exact gW
      have c1' : cRo V V1 (fwO (h, f, nw, R, B, F) n l) := by
        generalize fwO (h, f, nw, R, B, F) n l = o at c1
        cases o with
        | none => exact ⟨by rw [c1.1, FW.gi 22 1 rfl], by rw [c1.2, (FW.2.1 23 rfl).2]⟩
        | some r => exact c1
      have Fm : Fr ([(89, 14)], []) V1 (si V1 89 14 0) := Fr.si Fr.rf rfl
      have KQm : KQ (si V1 89 14 0) (h, f, nw, R, B, F) := by
        refine ⟨(km.fr F01 rfl).fr Fm rfl, ?_, ?_⟩
        · rw [m14 _ _ 89 8 (by decide), F01.gi 89 8 rfl]; exact s5
        · rw [Fm.ga 90 rfl, F01.ga 90 rfl]
          have := s3.1
          rw [hn] at this
          exact this
      obtain ⟨V3, e3, a3, b3, F3, V4, e4, m4, F4⟩ := M_pl (P := (h, f, nw, R, B, F)) (n := n) (l := l) hP n2 n1 l1 KQm (by
        rw [Fm.ga 90 rfl, F01.ga 90 rfl]
        have := s3.2.1
        rw [el] at this
        exact this)
      have hbv := vld_lt (bst_vld hP n 0 l (by omega) l1) n2
      have M1 := ((km.fr F01 rfl).fr Fm rfl).2.1
      have F13 : Fr wM2 V1 V3 := Fr.tr (Fr.tr Fr.rf Fm rfl) F3 rfl
      have F14 : Fr wM2 V1 V4 := Fr.tr F13 F4 rfl
      have hin : ai_in (on l) 13000 := by rw [on_in (by omega)]; omega
      have hlen : ∀ r, fwO (h, f, nw, R, B, F) n l = some r → r.length ≤ 12 := by
        intro r hr
        unfold fwO at hr
        by_cases e : plF (h, f, nw, R, B, F) = true ∧ bst (h, f, nw, R, B, F) n 0 l = 1000000000
        · rw [if_pos e] at hr; cases hr
        · rw [if_neg e] at hr
          obtain rfl := Option.some.inj hr
          rw [pth_len]; exact n2
      have e3' : d_M_layRows (on B) (on n) (md (h, f, nw, R, B, F)) (si V1 89 14 0) = some V3 := e3
      have e4' : d_M_tellRow (on B) (on n) (md (h, f, nw, R, B, F)) V3 = some V4 := e4
      cases F with
      | true =>
        have emd : md (h, f, nw, R, B, true) = 0 := rfl
        rw [emd] at e3' e4'
        by_cases ei : bst (h, f, nw, R, B, true) n 0 l = 1000000000
        · have ho : fwO (h, f, nw, R, B, true) n l = none := by unfold fwO; rw [if_pos ⟨rfl, ei⟩]
          have hv : fwV (h, f, nw, R, B, true) n l = -2 := by unfold fwV; rw [if_pos (show plF (h, f, nw, R, B, true) = true from rfl), if_pos ei]
          rw [ho] at c1'
          obtain ⟨hI2, g2⟩ := hI.pl F01 F13 g1 (o := none) (fun r hr => by cases hr) c1' ⟨by rw [F3.gi 89 13 rfl, m14 _ _ 89 13 (by decide)], by rw [(F3.2.1 97 rfl).2]; rfl⟩
          rw [hv] at e1
          refine ⟨-2, V1, V3, e1, fun _ => ?_, fun hn => absurd rfl hn, hI2, g2⟩
          rw [d_M_fewest, areThose_eq hO M1, bd_some, if_neg (by rw [tf_pos hx]; decide), in_eq, bd_some, if_pos (by rw [tf_pos hy]; decide), e3', bd_some, show ((12 : Int32)).toNatClampNeg = 12 from rfl, a3, if_pos hin, on_nn (by omega), b3, if_neg (fun h => h (by rw [ei]; rfl))]
        · have ho : fwO (h, f, nw, R, B, true) n l = some (pth (h, f, nw, R, B, true) n 0 l) := by unfold fwO; rw [if_neg (fun h => ei h.2)]
          have hv : fwV (h, f, nw, R, B, true) n l = on (bst (h, f, nw, R, B, true) n 0 l / 10000) := by unfold fwV; rw [if_pos (show plF (h, f, nw, R, B, true) = true from rfl), if_neg ei]
          rw [ho] at c1' hlen
          obtain ⟨hI2, g2⟩ := hI.pl F01 F14 g1 (o := some _) hlen c1' m4
          rw [hv] at e1
          refine ⟨_, V1, V4, e1, fun _ => ?_, fun hn => absurd rfl hn, hI2, g2⟩
          rw [d_M_fewest, areThose_eq hO M1, bd_some, if_neg (by rw [tf_pos hx]; decide), in_eq, bd_some, if_pos (by rw [tf_pos hy]; decide), e3', bd_some, show ((12 : Int32)).toNatClampNeg = 12 from rfl, a3, if_pos hin, on_nn (by omega), b3, if_pos (by rw [show (1000000000 : Int32) = on 1000000000 from rfl, on_inj (by omega) (by omega)]; exact ei), e4', bd_some, show (10000 : Int32) = on 10000 from rfl, on_div (by omega) (by omega)]
      | false =>
        have emd : md (h, f, nw, R, B, false) = 1 := rfl
        have hff : ¬ plF (h, f, nw, R, B, false) = true := fun hq => Bool.noConfusion (show false = true from hq)
        rw [emd] at e3' e4'
        have ho : fwO (h, f, nw, R, B, false) n l = some (pth (h, f, nw, R, B, false) n 0 l) := by unfold fwO; rw [if_neg (fun hq => absurd hq.1 hff)]
        have hv : fwV (h, f, nw, R, B, false) n l = on (bst (h, f, nw, R, B, false) n 0 l / 100) := by unfold fwV; rw [if_neg hff]
        rw [ho] at c1' hlen
        obtain ⟨hI2, g2⟩ := hI.pl F01 F14 g1 (o := some _) hlen c1' m4
        rw [hv] at e1
        refine ⟨_, V1, V4, e1, fun hn => absurd hn (by decide), fun _ => ?_, hI2, g2⟩
        rw [d_M_driest, areThose_eq hO M1, bd_some, if_neg (by rw [tf_pos hx]; decide), in_eq, bd_some, if_pos (by rw [tf_pos hy]; decide), e3', bd_some, show ((12 : Int32)).toNatClampNeg = 12 from rfl, a3, if_pos hin, on_nn (by omega), b3, e4', bd_some, show (100 : Int32) = on 100 from rfl, on_div (by omega) (by omega)]
    · have hno : (if y < 1 then some () else (if y ≤ 12 then none else some ())) = some () := by
        by_cases e : y < 1
        · rw [if_pos e]
        · rw [if_neg e, if_neg (fun hc => hy ⟨nlt.mp e, hc⟩)]
      refine Or.inl ⟨?_, ?_, ?_, ?_⟩
      · rw [d_no_fewest, hasAll_eq hO kc.2.1, bd_some, if_neg (by rw [tf_pos hx]; decide), hno]
      · rw [d_no_driest, hasAll_eq hO kc.2.1, bd_some, if_neg (by rw [tf_pos hx]; decide), hno]
      · rw [d_M_fewest, areThose_eq hO (km.s14 0).2.1, bd_some, if_neg (by rw [tf_pos hx]; decide), in_eq, bd_some, if_neg (fun h => h (tf_neg hy))]
      · rw [d_M_driest, areThose_eq hO (km.s14 0).2.1, bd_some, if_neg (by rw [tf_pos hx]; decide), in_eq, bd_some, if_neg (fun h => h (tf_neg hy))]
  · refine Or.inl ⟨?_, ?_, ?_, ?_⟩
    · rw [d_no_fewest, hasAll_eq hO kc.2.1, bd_some, if_pos (tf_neg hx)]
    · rw [d_no_driest, hasAll_eq hO kc.2.1, bd_some, if_pos (tf_neg hx)]
    · rw [d_M_fewest, areThose_eq hO (km.s14 0).2.1, bd_some, if_pos (tf_neg hx)]
    · rw [d_M_driest, areThose_eq hO (km.s14 0).2.1, bd_some, if_pos (tf_neg hx)]
theorem al_fr (V : ai_V) : Fr ([(64, 2)], [119]) V (ai_al0 V) ∧ gr (ai_al0 V) 64 2 = some 119 := by
  have F1 : Fr ([(64, 2)], [119]) V (ai_z V 119) := by
    refine ⟨fun o k _ => ⟨rfl, rfl, rfl⟩, fun o ho => ?_, Or.inl rfl⟩
    have hne : ¬ o = 119 := by
      intro e
      subst e
      exact absurd ho (by decide)
    refine ⟨funext fun b => ?_, funext fun b => ?_⟩
    · show (if o = 119 then 0 else _) = _
      rw [if_neg hne]; rfl
    · show (if o = 119 then 0 else _) = _
      rw [if_neg hne]; rfl
  exact ⟨Fr.sr F1 rfl (Or.inr (Or.inr (by decide))), by rw [ai_al0, gr_sr, if_pos ⟨rfl, rfl⟩]⟩
/-- a question of rows: refused, or answered with the table there, or with the table made -/
theorem st_fewest {N : Nat} {V : ai_V} (hI : Inv N V) (hN : N < 512) (x y : Int32) :
    (∃ V2, d_no_fewest x y V = some () ∧ d_M_fewest x y V = some (-1, V2) ∧ Inv (N + 1) V2 ∧ gr V2 64 2 = gr V 64 2) ∨
    (gr V 64 2 = some 119 ∧ ∃ v V1 V2, d_X_fewest x y V = some (v, V1) ∧ d_M_fewest x y V1 = some (v, V2) ∧ Inv (N + 1) V2 ∧ gr V2 64 2 = some 119) ∨
    (gr V 64 2 = some 68 ∧ ∃ v V1 V2, d0_X_fewest x y V = some (v, V1) ∧ d_M_fewest x y V1 = some (v, V2) ∧ Inv (N + 1) V2 ∧ gr V2 64 2 = some 119) := by
  rcases pl_step hI hN x y true with ⟨h1, -, h2, -⟩ | ⟨h1, h2, h3, h4⟩
  · exact Or.inl ⟨_, h1, h2, hI.no 0, by rw [gr_si]⟩
  · refine Or.inr ?_
    rcases hI.x.2.2.1 with g | g
    · obtain ⟨FW, gW⟩ := al_fr V
      obtain ⟨v, V1, V2, e1, e2, -, hI2, g2⟩ := h4 _ FW gW
      refine Or.inr ⟨g, v, V1, V2, ?_, e2 rfl, hI2, g2⟩
      rw [d0_X_fewest, h1, bd_some, if_neg (by decide), if_neg h2, if_pos h3]
      exact e1
    · obtain ⟨v, V1, V2, e1, e2, -, hI2, g2⟩ := h4 V Fr.rf g
      refine Or.inl ⟨g, v, V1, V2, ?_, e2 rfl, hI2, g2⟩
      rw [d_X_fewest, h1, bd_some, if_neg (by decide), if_neg h2, if_pos h3, d_Plan_leastCost, if_pos g]
      exact e1
theorem st_driest {N : Nat} {V : ai_V} (hI : Inv N V) (hN : N < 512) (x y : Int32) :
    (∃ V2, d_no_driest x y V = some () ∧ d_M_driest x y V = some (-1, V2) ∧ Inv (N + 1) V2 ∧ gr V2 64 2 = gr V 64 2) ∨
    (gr V 64 2 = some 119 ∧ ∃ v V1 V2, d_X_driest x y V = some (v, V1) ∧ d_M_driest x y V1 = some (v, V2) ∧ Inv (N + 1) V2 ∧ gr V2 64 2 = some 119) ∨
    (gr V 64 2 = some 68 ∧ ∃ v V1 V2, d0_X_driest x y V = some (v, V1) ∧ d_M_driest x y V1 = some (v, V2) ∧ Inv (N + 1) V2 ∧ gr V2 64 2 = some 119) := by
  rcases pl_step hI hN x y false with ⟨-, h1, -, h2⟩ | ⟨h1, h2, h3, h4⟩
  · exact Or.inl ⟨_, h1, h2, hI.no 0, by rw [gr_si]⟩
  · refine Or.inr ?_
    rcases hI.x.2.2.1 with g | g
    · obtain ⟨FW, gW⟩ := al_fr V
      obtain ⟨v, V1, V2, e1, -, e2, hI2, g2⟩ := h4 _ FW gW
      refine Or.inr ⟨g, v, V1, V2, ?_, e2 (by decide), hI2, g2⟩
      rw [d0_X_driest, h1, bd_some, if_neg (by decide), if_neg h2, if_pos h3]
      exact e1
    · obtain ⟨v, V1, V2, e1, -, e2, hI2, g2⟩ := h4 V Fr.rf g
      refine Or.inl ⟨g, v, V1, V2, ?_, e2 (by decide), hI2, g2⟩
      rw [d_X_driest, h1, bd_some, if_neg (by decide), if_neg h2, if_pos h3, d_Plan_leastCost, if_pos g]
      exact e1
