/-! ===== the machine does what the abstract machine does: whole runs, with their calls ===== -/
theorem ai_lv_args (r : Nat → Nat) : ∀ (as : List Value) (i : Nat), lv_args i (as.map (ai_cv r)) = ai_lm r (lv_args i as)
  | [], _ => rfl
  | v :: as, i => by
    rw [List.map_cons, lv_args, lv_args, ai_cv_cat, ai_lv_args r as]
    rfl
theorem ai_lg_sl (r : Nat → Nat) (as : List Value) : (lg_sl (as.map (ai_cv r))).length = (lg_sl as).length := by
  induction as with
  | nil => rfl
  | cons v as ih =>
    have h : ∀ (w : Value) (ws : List Value), (lg_sl (w :: ws)).length = (if w.category = 2 then 2 else 1) + (lg_sl ws).length := by
      intro w ws
      simp only [lg_sl, List.flatMap_cons, List.length_append]
      split <;> rfl
    rw [List.map_cons, h, h, ai_cv_cat, ih]
/-- what a method's walk is given beside its world: the constant text, at an address that nothing of it writes -/
abbrev ai_Zt : Type := Nat → Nat → (Nat → Prop) → State → Prop
def ai_Zok (Z : ai_Zt) : Prop :=
  (∀ (z y : Nat) (A A' : Nat → Prop) (s U : State), Z z y A s → (∀ q, A' q → A q) → s.heap.size ≤ U.heap.size → (∀ q, q < s.heap.size → ¬ A q → U.heap[q]? = s.heap[q]?) → s.WarmedH U.vm → Z z y A' U) ∧
  (∀ (z y : Nat) (A : Nat → Prop) (U : State) (g : JFrame) (mk : MethodId) (a : Array Value), Z z y A U → Z z y A (U.calling g mk a)) ∧
  (∀ (z y : Nat) (A : Nat → Prop) (s : State), Z z y A s → ∀ q ∈ ai_nst, va_Nw (.methodLinkNest "RentByTheWheel" q.1 (ai_km q.2).1 "RentByTheWheel") s) ∧
  (∀ (z y : Nat) (A : Nat → Prop) (s : State) (H : Heap) (locs : List Loc), Z z y A s → va_S A s.heap H locs → ∃ cell : Cell, H[z]? = some cell ∧ cell.vm.isStatics = false ∧ s.vm.findClass "java/lang/String" = some cell.cls)
def ai_Zrow (Z : ai_Zt) : Prop :=
  ∀ {p : Program} {L : Launch} {e : Env} {R : Room} {s : State} {m : MethodId} {args : Array Value} {below : List Frame} {meth : Method} {c : Code} {H : Heap} {locs : List Loc} {cells slots : Nat} {Q : State → Prop} {own : String} {cc : ByteArray} {ret : Option FieldType} {ini : Bool} {nL pc nx op a b : Nat} {x : Int32} {ts : List (Int32 × Nat)} {l l' : ai_L} {st st' : List Value} {S S' : ai_S} {V V' : ai_V} {D : va_G} {E : Nat → ClassId} {r : Nat → Nat} {A : Nat → Prop} {ls : Array Slot},
    CallFix p m c cc nL s args GW own → ai_okb own cc ret nL ini (pc, nx, op, a, b, x, ts) = true → (op = 3 ∨ op = 12 ∨ op = 14 ∨ op = 16 ∨ op = 18 ∨ op = 21) → 1 ≤ R.frames → 200 ≤ R.locals → cells ≤ R.cells → slots ≤ R.slots → Z (r 999999) (r 999998) A s → ai_ex ai_F op a b x l st S V = some (l', st', S', V') → ai_Wd D E r A s H locs S V → lv_has ls nL (ai_lm r l) →
    ai_Go p L e R s m args below meth c cells slots Q nL D E r A nx l' st' S' V' → W p L e R s m args below meth c H locs cells slots Q (F0 m pc ls (st.map (ai_cv r)))
/-- a method of the table: what the statement's words say of it -/
def ai_mok (k : Nat) : Prop := ai_okm k = true ∧ Cond.code (ai_km k).1 (ai_km k).2.1 (ai_km k).2.2.1 (ai_km k).2.2.2.1 ∈ GW ∧ plainName (ai_km k).1.cls = true ∧ ((ai_km k).1.cls ≠ "java/lang/invoke/MethodHandle" ∧ (ai_km k).1.cls ≠ "java/lang/invoke/VarHandle" ∧ (parseMethodDescriptor (ai_km k).1.desc).map (fun d => d.parameters.length) = some (ai_km k).2.2.2.2.1) ∧ (ai_km k).2.2.1 ≤ 60
def ai_ws (k : Nat) : List Cond := Cond.code (ai_km k).1 (ai_km k).2.1 (ai_km k).2.2.1 (ai_km k).2.2.2.1 :: GW
def ai_rm (d mc ms : Nat) : Room := { frames := d + 1, cells := mc, slots := ms, locals := 100 * d + 300 }
theorem ai_good {k : Nat} (h : ai_mok k) : GoodIn GW (ai_ws k) := by
  intro w hw
  have hm : w ∈ GW := by
    rcases List.mem_cons.mp hw with rfl | hw
    · exact h.2.1
    · exact hw
  exact ⟨hm, good_of_word (List.mem_filter.mp hm).2⟩
/-- addresses that stay: all, if no cell was made -/
def ai_Ag (n n' : Nat) (r r' : Nat → Nat) : Prop := (n' = n → r' = r) ∧ ∀ q, q < n ∨ 999000 < q → r' q = r q
/-- the words of a run's end -/
def ai_Qc (D : va_G) (E : Nat → ClassId) (r : Nat → Nat) (n : Nat) (A : Nat → Prop) (v : Option Value) (S' : ai_S) (V' : ai_V) : Array Value → State → Outcome → State → Prop := fun _ st0 o t =>
  (∃ r' : Nat → Nat, ai_Ag n S'.length r r' ∧ o = .returned (v.map (ai_cv r')) ∧ va_P D kcl (ai_w E r' V' S') t.heap ∧ va_D A (ai_w E r' V' S')) ∧ va_F A st0 t
def ai_Pc (Z : ai_Zt) (D : va_G) (E : Nat → ClassId) (r : Nat → Nat) (sz : Nat) (S : ai_S) (V : ai_V) (as : List Value) : Array Value → State → Prop :=
  va_Pc (as.map (ai_cv r)) (fun U => U.heap.size = sz ∧ va_P D kcl (ai_w E r V S) U.heap ∧ va_K D kcl (ai_tys E) U ∧ va_AO "RentByTheWheel$State" U ∧ va_D (fun _ => True) (ai_w E r V S) ∧ Z (r 999999) (r 999998) (va_A (ai_w E r V S) sz) U)
/-- a whole run of a method's body, from any row of it -/
def ai_Sound (Z : ai_Zt) (n : Nat) : Prop := ∀ (d k pc : Nat) (l : ai_L) (st : List Value) (S : ai_S) (V : ai_V) (v : Option Value) (S' : ai_S) (V' : ai_V), ai_run n d k pc l st S V = some (v, S', V') → k < 259 →
  ∀ {p : Program} {L : Launch} {e : Env} {R : Room} {s : State} {m : MethodId} {args : Array Value} {below : List Frame} {meth : Method} {c : Code} {H : Heap} {locs : List Loc} {cells slots mc ms : Nat} {Qc : Array Value → State → Outcome → State → Prop} {D : va_G} {E : Nat → ClassId} {r : Nat → Nat} {A : Nat → Prop} {ls : Array Slot},
    CallFix p m c (ai_km k).2.1 (ai_km k).2.2.1 s args GW (ai_km k).1.cls → meth.sig.returnType = (ai_km k).2.2.2.1 → meth.locks = false → ((ai_km k).1.name = "<init>" → meth.name = "<init>") → d + 1 ≤ R.frames → 100 * d + 300 ≤ R.locals →
    cells + (S'.length - S.length) ≤ mc → slots + (ai_sz S' - ai_sz S) ≤ ms → mc ≤ R.cells → ms ≤ R.slots → Z (r 999999) (r 999998) A s → (∀ q, s.heap.size ≤ q → A q) → ai_Wd D E r A s H locs S V → lv_has ls (ai_km k).2.2.1 (ai_lm r l) →
    (∀ (r' : Nat → Nat) (H' : Heap) (locs' : List Loc) (t : State), ai_Ag S.length S'.length r r' → ai_Wd D E r' A s H' locs' S' V' → t.heap = H' → s.WarmedH t.vm → Qc args s (.returned (v.map (ai_cv r'))) t) →
    W p L e R s m args below meth c H locs cells slots (MQ below Qc args s mc ms A) (F0 m pc ls (st.map (ai_cv r)))
theorem ai_blind {Z : ai_Zt} (hZ : ai_Zok Z) {D : va_G} {E : Nat → ClassId} {r : Nat → Nat} {sz : Nat} {S : ai_S} {V : ai_V} {as : List Value} : FrameBlind (ai_Pc Z D E r sz S V as) := by
  intro a U g mk h
  obtain ⟨q0, q1, qP, qK, qO, qD, qZ⟩ := h
  exact ⟨q0, q1, qP, va_K.moved (u := U) (U := U.calling g mk a) (Vm.Alike.refl U.vm) qK, va_AO.moved (u := U) (U := U.calling g mk a) (Vm.Alike.refl U.vm) qO, qD, hZ.2.1 _ _ _ _ _ _ _ qZ⟩
/-- a run of a whole method, as a contract -/
theorem ai_met {Z : ai_Zt} {n : Nat} (hn : ai_Sound Z n) {d k : Nat} {as : List Value} {S S' : ai_S} {V V' : ai_V} {v : Option Value} (hrun : ai_run n d k 0 (lv_args 0 as) [] S V = some (v, S', V')) (hk : k < 259) (hm : ai_mok k) (hfit : (lg_sl as).length ≤ (ai_km k).2.2.1)
    (L : Launch) (D : va_G) (E : Nat → ClassId) (r : Nat → Nat) (sz : Nat) :
    Met L (ai_km k).1 (ai_ws k) (ai_rm d (S'.length - S.length) (ai_sz S' - ai_sz S)) (ai_Pc Z D E r sz S V as) (ai_Qc D E r S.length (va_A (ai_w E r V S) sz) v S' V') (S'.length - S.length) (ai_sz S' - ai_sz S) (va_A (ai_w E r V S) sz) := by
  refine Met.ofW (cc := (ai_km k).2.1) (maxL := (ai_km k).2.2.1) (ret := (ai_km k).2.2.2.1) hm.2.2.1 rfl ?_
  intro p e s m args below meth c s₁ B hml hv
  obtain ⟨rfl, hsz, hP, hK, hO, hD0, hZ0⟩ := hv
  have hts := atoms_spec (ws := ai_ws k) B.pre
  subst hsz
  have hD := hD0.self (sz := s.heap.size)
  have hl := lv_entry (as.map (ai_cv r)) (n := (ai_km k).2.2.1) (by rw [ai_lg_sl]; exact hfit)
  rw [lg_entry_eq]
  generalize (lg_sl (as.map (ai_cv r)) ++ List.replicate ((ai_km k).2.2.1 - (lg_sl (as.map (ai_cv r))).length) Slot.unset).toArray = ls at hl ⊢
  rw [ai_lv_args] at hl
  refine hn d k 0 (lv_args 0 as) [] S V v S' V' hrun hk ⟨B.exec, B.bytes, hml, findClass_of_methodNamed B.named, fun w hw => hts w (List.mem_cons_of_mem _ hw)⟩ B.returns B.notSynchronized (fun h => by rw [← h]; exact (name_of_methodNamed B.named B.method).1) (Nat.le_refl _) (Nat.le_refl _) (Nat.le_of_eq (Nat.zero_add _)) (Nat.le_of_eq (Nat.zero_add _)) (Nat.le_refl _) (Nat.le_refl _) hZ0 (fun q h => Or.inr h) ⟨hK, hO, hP, hD, va_S.rf⟩ hl ?_
  intro r' H' locs' t hr' hW' ht hwm
  obtain ⟨hK', hO', hP', hD', hS'⟩ := hW'
  exact ⟨⟨r', hr', rfl, by rw [ht]; exact hP', hD'⟩, hS'.F ht⟩
section AIC
variable {p : Program} {L : Launch} {e : Env} {R : Room} {s : State} {m : MethodId} {args : Array Value} {below : List Frame} {meth : Method} {c : Code} {H : Heap} {locs : List Loc} {cells slots : Nat} {Q : State → Prop}
/-- behind a call -/
theorem ai_cont {D : va_G} {E : Nat → ClassId} {r : Nat → Nat} {A : Nat → Prop} {v : Option Value} {S S' : ai_S} {V V' : ai_V} {mc ms pc : Nat} {ls : Array Slot} {st0 rest : List Value} {a : Array Value}
    (hr : va_Run p L e R s m args below meth c H locs cells slots mc ms (F0 m pc ls st0) rest (ai_Qc D E r S.length (va_A (ai_w E r V S) H.size) v S' V' a) (va_A (ai_w E r V S) H.size)) (hW : ai_Wd D E r A s H locs S V) (hA : ∀ q, s.heap.size ≤ q → A q)
    (kk : ∀ (r' : Nat → Nat) (H1 : Heap) (locs1 : List Loc), ai_Ag S.length S'.length r r' → ai_Wd D E r' A s H1 locs1 S' V' → W p L e R s m args below meth c H1 locs1 (cells + mc) (slots + ms) Q (F0 m (pc + 3) ls ((v.map (ai_cv r')).toList ++ rest))) : W p L e R s m args below meth c H locs cells slots Q (F0 m pc ls st0) := by
  obtain ⟨hK, hO, hP, hD, hS⟩ := hW
  have hFc : ∀ q, va_A (ai_w E r V S) H.size q → A q := by
    intro q h
    rcases h with ⟨j, x, hj⟩ | h
    · exact hD.2 j _ hj
    · exact hA q (Nat.le_trans hS.1 h)
  intro T hT X
  obtain ⟨v1, st₀, t, T', L1, h0, X', hL, e1, e2, ⟨⟨r', hr', hv, hP1, hD1⟩, hz, hk⟩, st⟩ := hr T hT X
  cases hv
  rw [h0] at hz hk
  obtain ⟨t2, a1, b1⟩ := kk r' T'.heap (locs ++ L1) hr' ⟨hK, hO, by rw [e1]; exact hP1, hD1.weaken (fun _ _ _ h => hFc _ h), ⟨Nat.le_trans hS.1 (by rw [e1]; exact hz), fun q h1 h2 => by
    rw [e1, hk q (Nat.lt_of_lt_of_le h1 hS.1) (fun z => h2 (hFc q z))]
    exact hS.2.1 q h1 h2, fun q hq => by
      rcases List.mem_append.mp hq with h | h
      · exact hS.2.2 q h
      · exact hFc _ (hL q h)⟩⟩ T' rfl X'
  exact ⟨t2, st t2 a1, b1⟩
end AIC
