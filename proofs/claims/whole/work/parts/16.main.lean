/-! ===== the induction over the length of a run ===== -/
theorem ai_at_mem : ∀ {rs : List ai_r} {pc : Nat} {q : ai_q}, ai_at rs pc = some q → (pc, q) ∈ rs
  | [], _, _, h => by cases h
  | r :: rs, pc, q, h => by
    rw [ai_at] at h
    cases hb : Nat.beq r.1 pc with
    | true =>
      rw [hb, cond_true] at h
      cases h
      have : r.1 = pc := Nat.eq_of_beq_eq_true hb
      subst this
      exact List.mem_cons_self
    | false =>
      rw [hb, cond_false] at h
      exact List.mem_cons_of_mem _ (ai_at_mem h)
theorem ai_tk_spec : ∀ {n : Nat} {st acc as rest : List Value}, ai_tk n st acc = some (as, rest) → ∃ pre : List Value, pre.length = n ∧ as = pre.reverse ++ acc ∧ st = pre ++ rest
  | 0, st, acc, as, rest, h => by cases h; exact ⟨[], rfl, rfl, rfl⟩
  | n + 1, [], acc, as, rest, h => by cases h
  | n + 1, v :: st, acc, as, rest, h => by
    obtain ⟨pre, h1, h2, h3⟩ := ai_tk_spec (n := n) (show ai_tk n st (v :: acc) = some (as, rest) from h)
    exact ⟨v :: pre, by simp [h1], by simp [h2], by simp [h3]⟩
theorem ai_Ag.rf {n : Nat} {r : Nat → Nat} : ai_Ag n n r r := ⟨fun _ => rfl, fun _ _ => rfl⟩
theorem ai_Ag.tr {n n1 n2 : Nat} {r r1 r2 : Nat → Nat} (h1 : ai_Ag n n1 r r1) (h2 : ai_Ag n1 n2 r1 r2) (l1 : n ≤ n1) (l2 : n1 ≤ n2) : ai_Ag n n2 r r2 :=
  ⟨fun h => by rw [h2.1 (by omega), h1.1 (by omega)], fun q hq => by rw [h2.2 q (hq.imp (fun z => Nat.lt_of_lt_of_le z l1) id), h1.2 q hq]⟩
theorem ai_Ag.cv {n n' : Nat} {r r' : Nat → Nat} (h : ai_Ag n n' r r') {l : ai_L} {st : List Value} (hc : (Nat.beq n' n || ai_fs n l st) = true) : st.map (ai_cv r') = st.map (ai_cv r) ∧ ai_lm r' l = ai_lm r l := by
  rw [Bool.or_eq_true] at hc
  rcases hc with hc | hc
  · rw [h.1 (Nat.eq_of_beq_eq_true hc)]
    exact ⟨rfl, rfl⟩
  · simp only [ai_fs, Bool.and_eq_true] at hc
    have key : ∀ v, ai_sc n v = true → ai_cv r' v = ai_cv r v := by
      intro v hv
      cases v with
      | ref a =>
        have : a < n := by simpa [ai_sc, Nat.blt_eq] using hv
        simp only [ai_cv, h.2 a (Or.inl this)]
      | _ => rfl
    exact ⟨List.map_congr_left (fun v hv => key v (List.all_eq_true.mp hc.2 v hv)), List.map_congr_left (fun q hq => by rw [key _ (List.all_eq_true.mp hc.1 q hq)])⟩
theorem ai_cv_opt {r r' : Nat → Nat} (v : Option Value) (rest : List Value) (h : rest.map (ai_cv r') = rest.map (ai_cv r)) : (v.toList ++ rest).map (ai_cv r') = (v.map (ai_cv r')).toList ++ rest.map (ai_cv r) := by
  rw [List.map_append, h]
  cases v <;> rfl
theorem ai_roomL {d z loc mc ms : Nat} (h : z ≤ 60) (hlo : 100 * (d + 1) + 300 ≤ loc) : 8 + (z + 11) + (ai_rm d mc ms).locals ≤ loc := by
  have h2 : 8 + (z + 11) ≤ 100 := by omega
  rw [Nat.mul_add, Nat.mul_one, Nat.add_right_comm, Nat.add_comm] at hlo
  exact Nat.le_trans (Nat.add_le_add_right h2 (100 * d + 300)) hlo
set_option maxHeartbeats 4000000 in
theorem ai_sound_succ {Z : ai_Zt} (hZ : ai_Zok Z) (hrow : ai_Zrow Z) (hm : ∀ k, k < 259 → ai_mok k) {n : Nat} (ih : ai_Sound Z n) : ai_Sound Z (n + 1) := by
  intro d k pc l st S V v S' V' h hk p L e R s m args below meth c H locs cells slots mc ms Qc D E r A ls F hr hlocks hnm hfr hlo hc hs hmc hms hz hA hW hl hQ
  have hx := F.1
  have hb := F.2.1
  have hml := F.2.2.1
  have hown := F.2.2.2.1
  have hts := F.2.2.2.2
  rw [ai_run] at h
  split at h
  · cases h
  · rename_i nx op a b x ts hat
    have hok : ai_okb (ai_km k).1.cls (ai_km k).2.1 (ai_km k).2.2.2.1 (ai_km k).2.2.1 (decide ((ai_km k).1.name = "<init>")) (pc, nx, op, a, b, x, ts) = true := List.all_eq_true.mp (hm k hk).1 _ (ai_at_mem hat)
    rw [cond_eq_ite] at h
    split at h
    · split at h
      · cases h
      · rename_i l1 st1 S1 V1 he
        have mono := ai_run_mono h
        by_cases h65 : op = 65
        · subst h65
          obtain ⟨e1, hlen⟩ := ai_newO_len (show ai_newO b (ai_F b) l st S V = _ from he)
          have hsz : ai_sz S1 = ai_sz S + (ai_F b).length := by rw [e1, ai_sz_app]; rfl
          have hln : S1.length = S.length + 1 := by rw [e1]; simp
          refine ai_newO_ok F hok he hW hA hl (by omega) (by omega) ?_
          intro r' hr' H' locs' ls' hW' hl'
          refine ih d k nx l1 st1 S1 V1 v S' V' h hk F hr hlocks hnm hfr hlo (by omega) (by omega) hmc hms (by rw [hr' 999999 (by omega), hr' 999998 (by omega)]; exact hz) hA hW' hl' ?_
          intro r2 H2 locs2 t hag hW2 ht hwm
          exact hQ r2 H2 locs2 t ⟨fun hq => by omega, fun q hq => by rw [hag.2 q (by omega), hr' q (by omega)]⟩ hW2 ht hwm
        · by_cases h66 : op = 66
          · subst h66
            obtain ⟨i, st0, e0, rfl, e1, hes, hlen⟩ := ai_newA_len (show ai_newA b l st S V = _ from he)
            have hsz : ai_sz S1 = ai_sz S + i.toNatClampNeg := by rw [e1, ai_sz_app, hes]
            have hln : S1.length = S.length + 1 := by rw [e1]; simp
            refine ai_newA_ok F hok he hW hA hl (by omega) (by omega) ?_
            intro r' hr' H' locs' ls' hW' hl'
            refine ih d k nx l1 st1 S1 V1 v S' V' h hk F hr hlocks hnm hfr hlo (by omega) (by omega) hmc hms (by rw [hr' 999999 (by omega), hr' 999998 (by omega)]; exact hz) hA hW' hl' ?_
            intro r2 H2 locs2 t hag hW2 ht hwm
            exact hQ r2 H2 locs2 t ⟨fun hq => by omega, fun q hq => by rw [hag.2 q (by omega), hr' q (by omega)]⟩ hW2 ht hwm
          · by_cases h67 : op = 67
            · subst h67
              obtain ⟨i, st0, e0, rfl, e1, hes, hlen⟩ := ai_newR_len (show ai_newR 4 l st S V = _ from he)
              have hsz : ai_sz S1 = ai_sz S + i.toNatClampNeg := by rw [e1, ai_sz_app, hes]
              have hln : S1.length = S.length + 1 := by rw [e1]; simp
              refine ai_newR_ok F hok he hW hA hl (by omega) (by omega) ?_
              intro r' hr' H' locs' ls' hW' hl'
              refine ih d k nx l1 st1 S1 V1 v S' V' h hk F hr hlocks hnm hfr hlo (by omega) (by omega) hmc hms (by rw [hr' 999999 (by omega), hr' 999998 (by omega)]; exact hz) hA hW' hl' ?_
              intro r2 H2 locs2 t hag hW2 ht hwm
              exact hQ r2 H2 locs2 t ⟨fun hq => by omega, fun q hq => by rw [hag.2 q (by omega), hr' q (by omega)]⟩ hW2 ht hwm
            · obtain ⟨hln, hsz⟩ := ai_ex_len ⟨h65, h66, h67⟩ he
              have kk : ai_Go p L e R s m args below meth c cells slots (MQ below Qc args s mc ms A) (ai_km k).2.2.1 D E r A nx l1 st1 S1 V1 := by
                intro H' locs' ls' hW' hl'
                exact ih d k nx l1 st1 S1 V1 v S' V' h hk F hr hlocks hnm hfr hlo (by omega) (by omega) hmc hms hz hA hW' hl' (by rw [hln]; exact hQ)
              by_cases hop : op = 3 ∨ op = 12 ∨ op = 14 ∨ op = 16 ∨ op = 18 ∨ op = 21
              · exact hrow F hok hop (by omega) (by omega) (by omega) (by omega) hz he hW hl kk
              · exact ai_ex_ok F hok (fun z => hnm (of_decide_eq_true z)) ⟨by omega, by omega, by omega, by omega, by omega, by omega, h65, h66, h67⟩ (by omega) (by omega) (by omega) (by omega) he hW hl kk
    · rename_i h70
      rw [cond_eq_ite] at h
      split at h
      · rename_i h90
        split at h
        · cases h
        · rename_i pc' st' hbr
          refine ai_br_ok F hok (by simpa [Nat.blt_eq] using h90) hbr hW ?_
          exact ih d k pc' l st' S V v S' V' h hk F hr hlocks hnm hfr hlo hc hs hmc hms hz hA hW hl hQ
      · rename_i h90
        rw [cond_eq_ite] at h
        split at h
        · rename_i h94
          split at h
          · cases h
          · rename_i d'
            split at h
            · cases h
            · rename_i as rest hcall
              rw [cond_eq_ite] at h
              split at h
              · rename_i hfit
                split at h
                · cases h
                · rename_i v1 S1 V1 hsub
                  rw [cond_eq_ite] at h
                  split at h
                  · rename_i hfs
                    simp only [ai_fit, Bool.and_eq_true] at hfit
                    have hf1 := Nat.le_of_ble_eq_true hfit.1
                    have hf2 := Nat.le_of_ble_eq_true hfit.2
                    have m1 := ai_run_mono hsub
                    have m2 := ai_run_mono h
                    have hop : op = 90 ∨ op = 91 ∨ op = 92 ∨ op = 93 := by
                      have a1 : ¬ op < 90 := by simpa [Nat.blt_eq] using h90
                      have a2 : op < 94 := by simpa [Nat.blt_eq] using h94
                      omega
                    have hW0 := hW
                    obtain ⟨hK, hO, hP, hD, hSt⟩ := hW
                    have hZc : ∀ U : State, U.heap = H → s.WarmedH U.vm → Z (r 999999) (r 999998) (va_A (ai_w E r V S) H.size) U := by
                      intro U hU hwm
                      refine hZ.1 _ _ A _ s U hz ?_ (by rw [hU]; exact hSt.1) (fun q h1 h2 => by rw [hU]; exact hSt.2.1 q h1 h2) hwm
                      intro q hq
                      rcases hq with ⟨j, y, hj⟩ | hq
                      · exact hD.2 j _ hj
                      · exact hA q (Nat.le_trans hSt.1 hq)
                    have hpre : ∀ U : State, U.heap = H → s.WarmedH U.vm → ai_Pc Z D E r H.size S V as (as.map (ai_cv r)).toArray U := fun U hU hwm =>
                      ⟨rfl, by rw [hU], by rw [hU]; exact hP, va_K.moved hwm.alike hK, va_AO.moved hwm.alike hO, hD.weaken (fun _ _ _ _ => trivial), hZc U hU hwm⟩
                    have hcat : (List.map (fun v => v.category) (rest.map (ai_cv r))).sum ≤ 8 := by rw [ai_cats]; exact hf1
                    have hroom : cells + (S1.length - S.length) ≤ R.cells ∧ slots + (ai_sz S1 - ai_sz S) ≤ R.slots := by omega
                    have kk : ∀ (r' : Nat → Nat) (H1 : Heap) (locs1 : List Loc), nx = pc + 3 → ai_Ag S.length S1.length r r' → ai_Wd D E r' A s H1 locs1 S1 V1 → W p L e R s m args below meth c H1 locs1 (cells + (S1.length - S.length)) (slots + (ai_sz S1 - ai_sz S)) (MQ below Qc args s mc ms A) (F0 m (pc + 3) ls ((v1.map (ai_cv r')).toList ++ rest.map (ai_cv r))) := by
                      intro r' H1 locs1 hnx hag hW1
                      obtain ⟨c1, c2⟩ := hag.cv hfs
                      rw [← ai_cv_opt v1 rest c1, ← hnx]
                      refine ih (d' + 1) k nx l (v1.toList ++ rest) S1 V1 v S' V' h hk F hr hlocks hnm hfr hlo (by omega) (by omega) hmc hms (by rw [hag.2 999999 (Or.inr (by omega)), hag.2 999998 (Or.inr (by omega))]; exact hz) hA hW1 (by rw [c2]; exact hl) ?_
                      intro r2 H2 locs2 t hag2 hW2 ht hwm
                      exact hQ r2 H2 locs2 t (hag.tr hag2 m1.1 m2.1) hW2 ht hwm
                    have hroomL : ∀ b, ai_mok b → 8 + ((ai_km b).2.2.1 + 11) + (ai_rm d' (S1.length - S.length) (ai_sz S1 - ai_sz S)).locals ≤ R.locals := by
                      exact fun b hmb => ai_roomL hmb.2.2.2.2 hlo
                    rcases hop with rfl | rfl | rfl | rfl
                    · simp only [ai_okb, ai_mw, Bool.and_eq_true, decide_eq_true_eq] at hok
                      obtain ⟨⟨hd, ⟨⟨hw, hb256⟩, hci⟩⟩, hnx⟩ := hok
                      have hwm := ai_wd_spec hw
                      have hmb := hm b hb256
                      have hM := ai_met ih hsub hb256 hmb hf2 L D E r H.size
                      simp only [ai_call, Option.bind_eq_some_iff] at hcall
                      obtain ⟨⟨as0, rest0⟩, htk, hci2⟩ := hcall
                      simp only [ai_callI] at hci2
                      split at hci2
                      · rename_i o as1
                        have hrv : (as = .ref o :: as1 ∧ rest = rest0) ∧ ∃ cell : Cell, H[r o]? = some cell ∧ cell.vm.isStatics = false ∧ s.vm.findClass (ai_km b).1.cls = some cell.cls := by
                          rw [cond_eq_ite] at hci2
                          split at hci2
                          · rename_i h50
                            rw [cond_eq_ite] at hci2
                            split at hci2
                            · rename_i ho
                              have ho2 : o = 999999 := Nat.eq_of_beq_eq_true ho
                              have h502 : (ai_km b).2.2.2.2.2 = 50 := Nat.eq_of_beq_eq_true h50
                              have hq := Prod.mk.inj (Option.some.inj hci2)
                              refine ⟨⟨hq.1.symm, hq.2.symm⟩, ?_⟩
                              have hcs : (ai_km b).1.cls = "java/lang/String" := by
                                rw [Bool.or_eq_true] at hci
                                rcases hci with hci | hci
                                · exact (of_decide_eq_true hci).2
                                · rw [Bool.and_eq_true] at hci
                                  have := of_decide_eq_true hci.1
                                  rw [h502] at this
                                  exact absurd this (by decide)
                              rw [hcs, ho2]
                              exact hZ.2.2.2 _ _ _ _ _ _ hz hSt
                            · cases hci2
                          · rename_i h50
                            rw [Option.map_eq_some_iff] at hci2
                            obtain ⟨fs, hob, hpair⟩ := hci2
                            have hq := Prod.mk.inj hpair
                            refine ⟨⟨hq.1.symm, hq.2.symm⟩, ?_⟩
                            have hci3 : (ai_km b).2.2.2.2.2 < 13 ∧ (ai_kc (ai_km b).2.2.2.2.2).1 = (ai_km b).1.cls := by
                              rw [Bool.or_eq_true] at hci
                              rcases hci with hci | hci
                              · have := (of_decide_eq_true hci).1
                                rw [this] at h50
                                exact absurd rfl h50
                              · rw [Bool.and_eq_true] at hci
                                exact ⟨of_decide_eq_true hci.1, of_decide_eq_true hci.2⟩
                            have hg : (ai_w E r V S)[o]? = some (r o, .inr ((ai_km b).2.2.2.2.2, fs.mapIdx (fun k v => ai_cv r (ai_fv V o k v)))) := by rw [ai_w_get, ai_ob_spec hob]; rfl
                            obtain ⟨cell, g1, g2, g3⟩ := va_recv hK hP (kcl_get hci3.1) hg
                            rw [hci3.2] at g3
                            exact ⟨cell, g1, g2, g3⟩
                        obtain ⟨⟨rfl, rfl⟩, cell, g1, g2, g3⟩ := hrv
                        obtain ⟨pre, p1, p2, p3⟩ := ai_tk_spec htk
                        rw [List.append_nil] at p2
                        have hlen1 : as1.length = ai_np b := by
                          have : (Value.ref o :: as1).length = pre.length := by rw [p2]; simp
                          simp only [List.length_cons] at this
                          omega
                        have hstk : st.map (ai_cv r) = (as1.map (ai_cv r)).reverse ++ .ref (r o) :: rest.map (ai_cv r) := by
                          have : pre = as1.reverse ++ [.ref o] := by rw [← List.reverse_reverse pre, ← p2]; simp
                          rw [p3, this]
                          simp [ai_cv]
                        refine ai_cont (va_runV (As := as1.map (ai_cv r)) (rest := rest.map (ai_cv r)) F hM ⟨callB_of (ai_km b).2.2.2.2.1 hts (ai_good hmb) rfl rfl rfl (hts _ (hwm _ (by simp))) (hts _ (hwm _ (by simp))) hmb.2.2.2.1 ⟨hfr, hroomL b hmb⟩, hts _ (hwm _ (by simp)), hts _ (hwm _ (by simp))⟩ ⟨ai_blind hZ, ⟨cell, g1, g2, g3⟩, hpre⟩ rfl (by rw [List.length_map]; exact hlen1) hl.1 hstk (lv_room hcat) hd hroom) hW0 hA (fun r' H1 locs1 hag hW1 => kk r' H1 locs1 hnx hag hW1)
                      · cases hci2
                    · simp only [ai_okb, Bool.and_eq_true, decide_eq_true_eq] at hok
                      obtain ⟨⟨⟨hd, hw⟩, hb256⟩, hnx⟩ := hok
                      have hwm := ai_wd_spec hw
                      have hmb := hm b hb256
                      have hM := ai_met ih hsub hb256 hmb hf2 L D E r H.size
                      obtain ⟨pre, p1, p2, p3⟩ := ai_tk_spec (show ai_tk (ai_np b) st [] = some (as, rest) from hcall)
                      rw [List.append_nil] at p2
                      have hlen1 : as.length = ai_np b := by rw [p2]; simp [p1]
                      have hstk : st.map (ai_cv r) = (as.map (ai_cv r)).reverse ++ rest.map (ai_cv r) := by
                        rw [p3, p2]
                        simp
                      refine ai_cont (va_runS (As := as.map (ai_cv r)) (rest := rest.map (ai_cv r)) F hM ⟨callB_of (ai_km b).2.2.2.2.1 hts (ai_good hmb) rfl rfl rfl (hts _ (hwm _ (by simp))) (hts _ (hwm _ (by simp))) hmb.2.2.2.1 ⟨hfr, hroomL b hmb⟩, hts _ (hwm _ (by simp))⟩ ⟨ai_blind hZ, hpre⟩ rfl (by rw [List.length_map]; exact hlen1) hl.1 hstk (lv_room hcat) hd hroom) hW0 hA (fun r' H1 locs1 hag hW1 => kk r' H1 locs1 hnx hag hW1)
                    · simp only [ai_okb, Bool.and_eq_true, decide_eq_true_eq] at hok
                      obtain ⟨⟨⟨⟨⟨hd, hw⟩, hini⟩, hret⟩, hb256⟩, hnx⟩ := hok
                      have hwm := ai_wd_spec hw
                      have hmb := hm b hb256
                      have hM := ai_met ih hsub hb256 hmb hf2 L D E r H.size
                      simp only [ai_call, Option.bind_eq_some_iff] at hcall
                      obtain ⟨⟨as0, rest0⟩, htk, hci2⟩ := hcall
                      simp only [ai_callI] at hci2
                      split at hci2
                      · rename_i o as1
                        cases hci2
                        obtain ⟨pre, p1, p2, p3⟩ := ai_tk_spec htk
                        rw [List.append_nil] at p2
                        have hlen1 : as1.length = ai_np b := by
                          have : (Value.ref o :: as1).length = pre.length := by rw [p2]; simp
                          simp only [List.length_cons] at this
                          omega
                        have hstk : st.map (ai_cv r) = (as1.map (ai_cv r)).reverse ++ .ref (r o) :: rest.map (ai_cv r) := by
                          have : pre = as1.reverse ++ [.ref o] := by rw [← List.reverse_reverse pre, ← p2]; simp
                          rw [p3, this]
                          simp [ai_cv]
                        refine ai_cont (va_runI (bytes := (ai_km b).2.1) (maxL := (ai_km b).2.2.1) (As := as1.map (ai_cv r)) (rest := rest.map (ai_cv r)) F hM ⟨callB_of (ai_km b).2.2.2.2.1 hts (ai_good hmb) (by rw [ai_ws, hret]) rfl rfl (hts _ (hwm _ (by simp))) (hts _ (hwm _ (by simp))) hmb.2.2.2.1 ⟨hfr, hroomL b hmb⟩, hini, hts _ (hwm _ (by simp))⟩ ⟨ai_blind hZ, hpre⟩ rfl (by rw [List.length_map]; exact hlen1) hl.1 hstk (lv_room hcat) hd hroom) hW0 hA (fun r' H1 locs1 hag hW1 => kk r' H1 locs1 hnx hag hW1)
                      · cases hci2
                    · simp only [ai_okb, Bool.and_eq_true, decide_eq_true_eq] at hok
                      obtain ⟨⟨⟨⟨⟨⟨⟨hd, ho93⟩, hn93⟩, hw⟩, hini⟩, hret⟩, hb256⟩, hnx⟩ := hok
                      have hwm := ai_wd_spec hw
                      have hmb := hm b hb256
                      have hM := ai_met ih hsub hb256 hmb hf2 L D E r H.size
                      simp only [ai_call, Option.bind_eq_some_iff] at hcall
                      obtain ⟨⟨as0, rest0⟩, htk, hci2⟩ := hcall
                      simp only [ai_callI] at hci2
                      split at hci2
                      · rename_i o as1
                        cases hci2
                        obtain ⟨pre, p1, p2, p3⟩ := ai_tk_spec htk
                        rw [List.append_nil] at p2
                        have hlen1 : as1.length = ai_np b := by
                          have : (Value.ref o :: as1).length = pre.length := by rw [p2]; simp
                          simp only [List.length_cons] at this
                          omega
                        have hstk : st.map (ai_cv r) = (as1.map (ai_cv r)).reverse ++ .ref (r o) :: rest.map (ai_cv r) := by
                          have : pre = as1.reverse ++ [.ref o] := by rw [← List.reverse_reverse pre, ← p2]; simp
                          rw [p3, this]
                          simp [ai_cv]
                        refine ai_cont (va_runIN (bytes := (ai_km b).2.1) (maxL := (ai_km b).2.2.1) (host := "RentByTheWheel") (As := as1.map (ai_cv r)) (rest := rest.map (ai_cv r)) F hM ⟨va_cnB (ai_km b).2.2.2.2.1 hts (ai_good hmb) (by rw [ai_ws, hret]) rfl rfl (by rw [ho93]; exact hZ.2.2.1 _ _ _ _ hz _ hn93) (hts _ (hwm _ (by simp))) hmb.2.2.2.1 ⟨hfr, hroomL b hmb⟩, hini, hts _ (hwm _ (by simp))⟩ ⟨ai_blind hZ, hpre⟩ rfl (by rw [List.length_map]; exact hlen1) hl.1 hstk (lv_room hcat) hd hroom) hW0 hA (fun r' H1 locs1 hag hW1 => kk r' H1 locs1 hnx hag hW1)
                      · cases hci2
                  · cases h
              · cases h
        · split at h
          · cases h
          · rename_i v2 hret
            cases h
            have hq : ∀ t : State, t.heap = H → s.WarmedH t.vm → Qc args s (.returned (v.map (ai_cv r))) t := fun t ht hwm => hQ r H locs t ai_Ag.rf hW ht hwm
            have hfl : ∀ q ∈ locs, A q.base := hW.2.2.2.2.2.2
            refine W.widen (k := mc) (n := ms) (by omega) (by omega) ?_
            unfold ai_ret at hret
            split at hret
            · cases hret
              simp only [ai_okb, Bool.and_eq_true, decide_eq_true_eq] at hok
              exact W.iret hx hb (hr.trans hok.2) hq hfl hok.1 hlocks
            · split at hret
              · rename_i h01
                cases hret
                simp only [ai_okb, Bool.and_eq_true, decide_eq_true_eq] at hok
                exact W.zret hx hb (hr.trans hok.2) (by rcases h01 with rfl | rfl <;> decide) hq hfl hok.1 hlocks
              · cases hret
            · cases hret
              simp only [ai_okb, Bool.and_eq_true, decide_eq_true_eq] at hok
              exact W.lret hx hb (hr.trans hok.2) hq hfl hok.1 hlocks
            · cases hret
              simp only [ai_okb, Bool.and_eq_true, decide_eq_true_eq] at hok
              exact W.aret hx hb (hr.trans hok.2) (Or.inl ⟨_, rfl⟩) (Or.inr ⟨_, rfl⟩) hq hfl hok.1 hlocks
            · cases hret
              simp only [ai_okb, Bool.and_eq_true, decide_eq_true_eq] at hok
              exact W.vret hx hb (hr.trans hok.2) hq hfl hok.1 hlocks
            · split at hret
              · rename_i h0
                cases hret
                simp only [ai_okb, Bool.and_eq_true, decide_eq_true_eq] at hok
                exact W.zret hx hb (hr.trans hok.2) (by rw [h0]; decide) hq hfl hok.1 hlocks
              · cases hret
            · cases hret
theorem ai_sound {Z : ai_Zt} (hZ : ai_Zok Z) (hrow : ai_Zrow Z) (hm : ∀ k, k < 259 → ai_mok k) : ∀ n, ai_Sound Z n
  | 0 => by
    intro d k pc l st S V v S' V' h
    cases h
  | n + 1 => ai_sound_succ hZ hrow hm (ai_sound hZ hrow hm n)
