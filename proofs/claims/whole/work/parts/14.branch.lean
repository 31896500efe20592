/-! ===== branches ===== -/
theorem ai_sel_out {d : Nat} {z : Int32} : ∀ {ts : List (Int32 × Nat)} {n : Nat}, ai_kchk n ts = true → n + ts.length < 2 ^ 31 → (z.toInt < n ∨ (n : Int) + ts.length ≤ z.toInt) → ai_sel ts d z = d
  | [], _, _, _, _ => rfl
  | q :: ts, n, h, hn, hz => by
    simp only [ai_kchk, Bool.and_eq_true, decide_eq_true_eq] at h
    simp only [List.length_cons] at hn hz
    have hne : ¬ z = q.1 := by
      intro e
      rw [e, h.1, nI_toInt (by omega)] at hz
      omega
    rw [ai_sel, if_neg hne]
    exact ai_sel_out h.2 (by omega) (by omega)
theorem ai_sel_in {d : Nat} {z : Int32} : ∀ {ts : List (Int32 × Nat)} {n : Nat}, ai_kchk n ts = true → n + ts.length < 2 ^ 31 → (n : Int) ≤ z.toInt → z.toInt < (n : Int) + ts.length → ∃ q, ts[(z.toInt - n).toNat]? = some q ∧ ai_sel ts d z = q.2
  | [], n, _, _, h1, h2 => by
    simp only [List.length_nil] at h2
    omega
  | q :: ts, n, h, hn, h1, h2 => by
    simp only [ai_kchk, Bool.and_eq_true, decide_eq_true_eq] at h
    simp only [List.length_cons] at hn h2
    by_cases e : z = q.1
    · refine ⟨q, ?_, by rw [ai_sel, if_pos e]⟩
      rw [e, h.1, nI_toInt (by omega)]
      simp
    · have hne : z.toInt ≠ n := by
        intro e2
        apply e
        rw [h.1]
        apply Int32.toInt_inj.mp
        rw [nI_toInt (by omega)]
        exact e2
      obtain ⟨q2, a1, a2⟩ := ai_sel_in (d := d) (z := z) h.2 (by omega) (by omega) (by omega)
      refine ⟨q2, ?_, by rw [ai_sel, if_neg e]; exact a2⟩
      have : (z.toInt - n).toNat = (z.toInt - ((n + 1 : Nat) : Int)).toNat + 1 := by omega
      rw [this]
      simpa using a1
theorem ai_sel_off {d pc : Nat} {z : Int32} : ∀ {ts : List (Int32 × Nat)}, Op.lookupswitch.offset (ts.map (fun q => (q.1.toInt, (q.2 : Int) - (pc : Int)))) ((d : Int) - pc) z.toInt = ((ai_sel ts d z : Nat) : Int) - pc
  | [] => rfl
  | q :: ts => by
    rw [List.map_cons, Op.lookupswitch.offset_cons, ai_sel]
    by_cases e : z = q.1
    · rw [if_pos (by rw [e]), if_pos e]
    · rw [if_neg (fun h => e (Int32.toInt_inj.mp h.symm)), if_neg e]
      exact ai_sel_off
section AIB
variable {p : Program} {L : Launch} {e : Env} {R : Room} {s : State} {m : MethodId} {args : Array Value} {below : List Frame} {meth : Method} {c : Code} {H : Heap} {locs : List Loc} {cells slots : Nat} {Q : State → Prop}
variable {own : String} {cc : ByteArray} {ret : Option FieldType} {ini : Bool} {nL pc nx op a b pc' : Nat} {x : Int32} {ts : List (Int32 × Nat)} {l : ai_L} {st st' : List Value} {S : ai_S} {V : ai_V} {D : va_G} {E : Nat → ClassId} {r : Nat → Nat} {A : Nat → Prop} {ls : Array Slot}
theorem ai_two {q : Prop} [Decidable q] {t n : Nat} {ls : Array Slot} {st : List Value} (kk : W p L e R s m args below meth c H locs cells slots Q (F0 m (if q then t else n) ls st)) : (q → W p L e R s m args below meth c H locs cells slots Q (F0 m t ls st)) ∧ (¬ q → W p L e R s m args below meth c H locs cells slots Q (F0 m n ls st)) :=
  ⟨fun h => by rw [if_pos h] at kk; exact kk, fun h => by rw [if_neg h] at kk; exact kk⟩
theorem ai_br_ok (F : CallFix p m c cc nL s args GW own) (hok : ai_okb own cc ret nL ini (pc, nx, op, a, b, x, ts) = true) (h90 : op < 90) (hbr : ai_br op a b nx ts st S = some (pc', st')) (hW : ai_Wd D E r A s H locs S V)
    (kk : W p L e R s m args below meth c H locs cells slots Q (F0 m pc' ls (st'.map (ai_cv r)))) : W p L e R s m args below meth c H locs cells slots Q (F0 m pc ls (st.map (ai_cv r))) := by
  have hx := F.1
  have hb := F.2.1
  unfold ai_br at hbr
  split at hbr
  · cases hbr; simp only [ai_okb, Nat.reduceLT, if_true, if_false, Nat.reduceSub, ai_cnd, Bool.and_eq_true, decide_eq_true_eq] at hok
    obtain ⟨hd, rfl⟩ := hok
    exact lv_if_eq (tgt := b) hx hb hd (by omega) (ai_two kk).1 (ai_two kk).2
  · cases hbr; simp only [ai_okb, Nat.reduceLT, if_true, if_false, Nat.reduceSub, ai_cnd, Bool.and_eq_true, decide_eq_true_eq] at hok
    obtain ⟨hd, rfl⟩ := hok
    exact lv_if_ne (tgt := b) hx hb hd (by omega) (ai_two kk).1 (fun h => (ai_two kk).2 (fun z => z h))
  · cases hbr; simp only [ai_okb, Nat.reduceLT, if_true, if_false, Nat.reduceSub, ai_cnd, Bool.and_eq_true, decide_eq_true_eq] at hok
    obtain ⟨hd, rfl⟩ := hok
    exact lv_if_lt (tgt := b) hx hb hd (by omega) (ai_two kk).1 (ai_two kk).2
  · cases hbr; simp only [ai_okb, Nat.reduceLT, if_true, if_false, Nat.reduceSub, ai_cnd, Bool.and_eq_true, decide_eq_true_eq] at hok
    obtain ⟨hd, rfl⟩ := hok
    exact lv_if_ge (tgt := b) hx hb hd (by omega) (ai_two kk).1 (ai_two kk).2
  · cases hbr; simp only [ai_okb, Nat.reduceLT, if_true, if_false, Nat.reduceSub, ai_cnd, Bool.and_eq_true, decide_eq_true_eq] at hok
    obtain ⟨hd, rfl⟩ := hok
    exact lv_if_gt (tgt := b) hx hb hd (by omega) (ai_two kk).1 (ai_two kk).2
  · cases hbr; simp only [ai_okb, Nat.reduceLT, if_true, if_false, Nat.reduceSub, ai_cnd, Bool.and_eq_true, decide_eq_true_eq] at hok
    obtain ⟨hd, rfl⟩ := hok
    exact lv_if_le (tgt := b) hx hb hd (by omega) (ai_two kk).1 (ai_two kk).2
  · cases hbr; simp only [ai_okb, Nat.reduceLT, if_true, if_false, Nat.reduceSub, ai_cnd, Bool.and_eq_true, decide_eq_true_eq] at hok
    obtain ⟨hd, rfl⟩ := hok
    exact lv_icmp_eq (tgt := b) hx hb hd (by omega) (ai_two kk).1 (ai_two kk).2
  · cases hbr; simp only [ai_okb, Nat.reduceLT, if_true, if_false, Nat.reduceSub, ai_cnd, Bool.and_eq_true, decide_eq_true_eq] at hok
    obtain ⟨hd, rfl⟩ := hok
    exact lv_icmp_ne (tgt := b) hx hb hd (by omega) (ai_two kk).1 (fun h => (ai_two kk).2 (fun z => z h))
  · cases hbr; simp only [ai_okb, Nat.reduceLT, if_true, if_false, Nat.reduceSub, ai_cnd, Bool.and_eq_true, decide_eq_true_eq] at hok
    obtain ⟨hd, rfl⟩ := hok
    exact lv_icmp_lt (tgt := b) hx hb hd (by omega) (ai_two kk).1 (ai_two kk).2
  · cases hbr; simp only [ai_okb, Nat.reduceLT, if_true, if_false, Nat.reduceSub, ai_cnd, Bool.and_eq_true, decide_eq_true_eq] at hok
    obtain ⟨hd, rfl⟩ := hok
    exact lv_icmp_ge (tgt := b) hx hb hd (by omega) (ai_two kk).1 (ai_two kk).2
  · cases hbr; simp only [ai_okb, Nat.reduceLT, if_true, if_false, Nat.reduceSub, ai_cnd, Bool.and_eq_true, decide_eq_true_eq] at hok
    obtain ⟨hd, rfl⟩ := hok
    exact lv_icmp_gt (tgt := b) hx hb hd (by omega) (ai_two kk).1 (ai_two kk).2
  · cases hbr; simp only [ai_okb, Nat.reduceLT, if_true, if_false, Nat.reduceSub, ai_cnd, Bool.and_eq_true, decide_eq_true_eq] at hok
    obtain ⟨hd, rfl⟩ := hok
    exact lv_icmp_le (tgt := b) hx hb hd (by omega) (ai_two kk).1 (ai_two kk).2
  · rename_i y z st0
    split at hbr
    · rename_i e1 e2 hz hy
      cases hbr
      simp only [ai_okb, Bool.and_eq_true, decide_eq_true_eq] at hok
      obtain ⟨hd, rfl⟩ := hok
      obtain ⟨hK, hO, hP, hD, hSt⟩ := hW
      have hinj : r z = r y → z = y := fun h => hD.1 z y _ _ (by rw [ai_w_get, hz]; rfl) (by rw [ai_w_get, hy]; rfl) h
      refine lv_acmp_ne (rx := some (r z)) (ry := some (r y)) (tgt := b) hx hb hd (by omega) (fun h => (ai_two kk).1 (fun q => h (by rw [q]))) (fun h => (ai_two kk).2 (fun q => q (hinj (Option.some.inj h))))
    · cases hbr
  · rename_i z st0
    cases hbr
    simp only [ai_okb] at hok
    split at hok
    · simp only [Bool.and_eq_true, decide_eq_true_eq] at hok
      obtain ⟨⟨⟨⟨hd, h0⟩, hlen⟩, hx0⟩, hk⟩ := hok
      have hx1 : 0 ≤ x.toInt := by rw [Int32.le_iff_toInt_le] at h0; exact h0
      have hcast : ((x.toInt.toNat : Nat) : Int) = x.toInt := Int.toNat_of_nonneg hx1
      by_cases hz : z.toInt < x.toInt ∨ x.toInt + ts.length - 1 < z.toInt
      · have h1 := ai_sel_out (d := a) (z := z) hk (by omega) (by rw [hcast]; omega)
        rw [h1] at kk
        exact lv_tableOut (tgt := a) hx hb hd hz (by omega) kk
      · obtain ⟨q, h1, h2⟩ := ai_sel_in (d := a) (z := z) hk (by omega) (by omega) (by omega)
        rw [h2] at kk
        rw [hcast] at h1
        refine lv_tableIn (off := (q.2 : Int) - pc) (tgt := q.2) hx hb hd (fun h => hz (Or.inl h)) (fun h => hz (Or.inr h)) ?_ (by omega) kk
        rw [List.getElem?_toArray, List.getElem?_map, h1]
        rfl
    · simp only [Bool.and_eq_true, decide_eq_true_eq] at hok
      obtain ⟨hd, hp⟩ := hok
      exact lv_lookup (off := ((ai_sel ts a z : Nat) : Int) - pc) (tgt := ai_sel ts a z) hx hb hd hp ai_sel_off (by omega) kk
  · cases hbr
end AIB
