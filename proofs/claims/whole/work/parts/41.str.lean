/-! ===== the constant text, and what else stands outside the worlds ===== -/
def ai_Z : ai_Zt := fun z y A s =>
  vk_S 1 [7] [[116, 112, 119, 108, 110, 113, 121]] (fun _ => z) (fun _ => y) A s s.heap ∧ vk_R "RentByTheWheel$Rule" 13 "tpwlnqy" z s ∧ va_Z "java/lang/String" "COMPACT_STRINGS" "Z" (.int 1) A s s.heap ∧ ∀ q ∈ ai_nst, va_Nw (.methodLinkNest "RentByTheWheel" q.1 (ai_km q.2).1 "RentByTheWheel") s
theorem ai_Z_ok : ai_Zok ai_Z := by
  refine ⟨?_, ?_, ?_, ?_⟩
  · intro z y A A' s U h hA hsz hq hw
    obtain ⟨h1, h2, h3, h4⟩ := h
    exact ⟨((h1.moved hw.alike).kept hq).narrow hA, h2.warm hw, ((h3.moved hw.alike).kept hq).narrow hA, fun q hq => va_Nw.warmM hw (h4 q hq)⟩
  · intro z y A U g mk a h
    obtain ⟨h1, h2, h3, h4⟩ := h
    exact ⟨h1.moved (u := U) (U := U.calling g mk a) (Vm.Alike.refl U.vm), vk_R.same (u := U) (U := U.calling g mk a) rfl h2, h3.moved (u := U) (U := U.calling g mk a) (Vm.Alike.refl U.vm), fun q hq => va_Nw.same (u := U) (U := U.calling g mk a) rfl rfl (h4 q hq)⟩
  · intro z y A s h
    exact h.2.2.2
  · intro z y A s H locs h hS
    exact vk_recv (i := 0) h.1 (by decide) hS
theorem gs_cmp : Cond.fieldLink "java/lang/String" 38 "java/lang/String" "COMPACT_STRINGS" "Z" ∈ GW := GW_of (ai_wat_in (q := (1, 118)) (by decide +kernel)) rfl
theorem gs_val : Cond.fieldLink "java/lang/String" 9 "java/lang/String" "value" "[B" ∈ GW := GW_of (ai_wat_in (q := (8, 105)) (by decide +kernel)) rfl
theorem gs_cod : Cond.fieldLink "java/lang/String" 15 "java/lang/String" "coder" "B" ∈ GW := GW_of (ai_wat_in (q := (8, 106)) (by decide +kernel)) rfl
theorem ai_Z_row : ai_Zrow ai_Z := by
  intro p L e R s m args below meth c H locs cells slots Q own cc ret ini nL pc nx op a b x ts l l' st st' S S' V V' D E r A ls F hok hop hfr hlo hcl hsl hz he hW hl kk
  obtain ⟨hx, hb, hml, hown, hts⟩ := F
  obtain ⟨h1, h2, h3, h4⟩ := hz
  have hSt := hW.2.2.2.2
  obtain ⟨s1, s2, s3, s4⟩ := h1.1 0 (by decide)
  rcases hop with rfl | rfl | rfl | rfl | rfl | rfl
  · simp only [ai_okb, Bool.and_eq_true, decide_eq_true_eq] at hok
    obtain ⟨⟨⟨hd, rfl⟩, rfl⟩, rfl⟩ := hok
    simp only [ai_ex] at he
    cases he
    exact va_ldcS hx hb hown h2 hd (kk H locs ls hW hl)
  · simp only [ai_okb, Bool.and_eq_true, decide_eq_true_eq] at hok
    obtain ⟨⟨⟨hd, rfl⟩, rfl⟩, rfl⟩ := hok
    simp only [ai_ex] at he
    cases he
    exact va_gets hx hb h3 hSt hown (hts _ gs_cmp) (fun _ h9 => h9) hd (kk H locs ls hW hl)
  · simp only [ai_okb, Bool.and_eq_true, decide_eq_true_eq] at hok
    obtain ⟨⟨⟨hd, rfl⟩, rfl⟩, rfl⟩ := hok
    simp only [ai_ex, ai_x1] at he
    split at he
    · rename_i o st0
      rw [cond_eq_ite] at he
      split at he
      · rename_i ho
        have ho2 : o = 999999 := Nat.eq_of_beq_eq_true ho
        subst ho2
        cases he
        exact vk_getf hx hb s3 hSt hown (hts _ gs_val) (fun _ h9 => h9) hd (kk H locs ls hW hl)
      · cases he
    · cases he
  · simp only [ai_okb, Bool.and_eq_true, decide_eq_true_eq] at hok
    obtain ⟨⟨⟨hd, rfl⟩, rfl⟩, rfl⟩ := hok
    simp only [ai_ex, ai_x1] at he
    split at he
    · rename_i o st0
      rw [cond_eq_ite] at he
      split at he
      · rename_i ho
        have ho2 : o = 999999 := Nat.eq_of_beq_eq_true ho
        subst ho2
        cases he
        exact vk_getf hx hb s2 hSt hown (hts _ gs_cod) (fun _ h9 => h9) hd (kk H locs ls hW hl)
      · cases he
    · cases he
  · simp only [ai_okb, Bool.and_eq_true, decide_eq_true_eq] at hok
    obtain ⟨hd, rfl⟩ := hok
    simp only [ai_ex, ai_x1] at he
    split at he
    · rename_i o st0
      rw [cond_eq_ite] at he
      split at he
      · rename_i ho
        have ho2 : o = 999998 := Nat.eq_of_beq_eq_true ho
        subst ho2
        cases he
        exact va_tlen hx hb s4 hSt rfl hd (kk H locs ls hW hl)
      · cases he
    · cases he
  · simp only [ai_okb, Bool.and_eq_true, decide_eq_true_eq] at hok
    obtain ⟨hd, rfl⟩ := hok
    simp only [ai_ex, ai_xb] at he
    split at he
    · rename_i i o st0
      rw [cond_eq_ite] at he
      split at he
      · rename_i ho
        have ho2 : o = 999998 := Nat.eq_of_beq_eq_true ho
        subst ho2
        split at he
        · rename_i hin
          cases he
          exact va_tb hx hb s4 hSt hin rfl hd (kk H locs ls hW hl)
        · cases he
      · cases he
    · cases he
