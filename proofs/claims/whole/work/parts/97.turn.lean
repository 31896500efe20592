/-! ===== the model reads a day ===== -/
def tX : List Nat → Int32
  | [] => -1
  | i :: _ => on i
def tY : List Nat → Int32
  | _ :: j :: _ => on j
  | _ => -1
def tB : List Nat → Nat
  | [] => 0
  | [i] => 2 ^ i
  | i :: j :: _ => 2 ^ i ||| 2 ^ j
theorem si_si (V : ai_V) (o k : Nat) (a b : Int32) : si (si V o k a) o k b = si V o k b := by
  have : ai_u (ai_u V.1 o k a) o k b = ai_u V.1 o k b := by
    funext o' k'
    unfold ai_u
    by_cases e : o' = o
    · by_cases e2 : k' = k
      · rw [if_pos e, if_pos e2, if_pos e, if_pos e2]
      · rw [if_pos e, if_neg e2, if_pos e, if_neg e2, if_pos e, if_neg e2]
    · rw [if_neg e, if_neg e, if_neg e]
  show (ai_u (ai_u V.1 o k a) o k b, V.2) = (ai_u V.1 o k b, V.2)
  rw [this]
def wRd : Fw := ([(89, 18), (89, 19), (89, 38)], [102])
def TurnOk (V V' : ai_V) (n c : Nat) : (List Nat × Nat) ⊕ Nat → Prop
  | .inl t => MT V' n 48 t.2 ∧ gi V' 89 38 = on (c + 1) ∧ (∀ k, ga V' 102 k = if k = c then on (tB t.1) else ga V 102 k)
  | .inr p => gi V' 89 19 = on p
theorem M_turn {V : ai_V} {T : Nat → Int32} {n i c : Nat} (hn : n ≤ 80) (h : MT V n 48 i) (t : TX V T) (hi : i < min n 48) (hc : c < 80) (h38 : gi V 89 38 = on c) :
    ∃ V', d_M_readTurn V = some V' ∧ TurnOk V V' n c (dT T (min n 48) i) ∧ Fr wRd V V' := by
  have l48 : 48 < 100000 := by omega
  have i1 : i < n := by omega
  have i2 : i < 48 := by omega
  have fin : ∀ (W : ai_V) (x : Int32), gi W 89 38 = on c → (if ai_in (gi W 89 38) 80 then d_M_readTurn_107 (sa W 102 (gi W 89 38).toNatClampNeg x) else none) = some (si (sa W 102 c x) 89 38 (on (c + 1))) := by
    intro W x hw
    rw [hw, if_pos (by rw [on_in (by omega)]; omega), on_nn (by omega), d_M_readTurn_107, gi_sa, hw, on_s]
  have g38 : ∀ j, gi (si V 89 18 (on j)) 89 38 = on c := fun j => by rw [gi_si, if_neg (by decide), h38]
  have g389 : ∀ j p, gi (si (si V 89 18 (on j)) 89 19 (on p)) 89 38 = on c := fun j p => by rw [gi_si, if_neg (by decide), g38]
  have gF : ∀ j p, gi (si (si V 89 18 (on j)) 89 19 (on p)) 89 19 = on p := fun j p => by rw [gi_si, if_pos ⟨rfl, rfl⟩]
  have tt : ∀ j, TX (si V 89 18 (on j)) T := fun j => t.fr (w := ([(89, 18)], [])) (Fr.si Fr.rf rfl) rfl
  -- a turn that ends well
  have good : ∀ (u : List Nat) (j : Nat) (x : Int32), x = on (tB u) → TurnOk V (si (sa (si V 89 18 (on j)) 102 c x) 89 38 (on (c + 1))) n c (.inl (u, j)) ∧ Fr wRd V (si (sa (si V 89 18 (on j)) 102 c x) 89 38 (on (c + 1))) := by
    intro u j x hx
    refine ⟨⟨(h.go j).fr (w := ([(89, 38)], [102])) (Fr.si (Fr.sa Fr.rf rfl) rfl) rfl, by rw [gi_si, if_pos ⟨rfl, rfl⟩], fun k => ?_⟩, Fr.si (Fr.sa (Fr.si Fr.rf rfl) rfl) rfl⟩
    rw [ga_si, ga_sa, ga_si, hx]
    by_cases e : k = c
    · rw [if_pos ⟨rfl, e⟩, if_pos e]
    · rw [if_neg (fun hc => e hc.2), if_neg e]
  have badE : ∀ (j p : Nat) (x : Int32), gi (si (sa (si (si V 89 18 (on j)) 89 19 (on p)) 102 c x) 89 38 (on (c + 1))) 89 19 = on p := by
    intro j p x
    rw [gi_si, if_neg (by decide), gi_sa, gF]
  have badF : ∀ (j p : Nat) (x : Int32), Fr wRd V (si (sa (si (si V 89 18 (on j)) 89 19 (on p)) 102 c x) 89 38 (on (c + 1))) := fun j p x => Fr.si (Fr.sa (Fr.si (Fr.si Fr.rf rfl) rfl) rfl) rfl
  have si2 : ∀ a b, si (si V 89 18 a) 89 18 b = si V 89 18 b := by
    intro a b
    exact si_si V 89 18 a b
  -- behind a fault
  have f62 : ∀ (j p : Nat) (y : Int32), p < 1000 → d_M_readTurn_62 y (si (si V 89 18 (on j)) 89 19 (on p)) = some (si (sa (si (si V 89 18 (on j)) 89 19 (on p)) 102 c (((1 : Int32) <<< (y &&& 31)) ||| ((1 : Int32) <<< ((0 : Int32) &&& 31)))) 89 38 (on (c + 1))) := by
    intro j p y hp
    rw [d_M_readTurn_62, letter_f (gF j p) (by omega), bd_some, need_f (gF j p) (by omega), bd_some, fin _ _ (g389 j p)]
  have n46 : ¬ (-1 : Int32) = 46 := by decide
  have n91 : ¬ (-1 : Int32) = 91 := by decide
  have P0 : d_M_passes 46 V = some (0, V) → d_M_passes 91 V = some (1, si V 89 18 (on (i + 1))) → d_M_readTurn V = (d_M_letter (si V 89 18 (on (i + 1)))).bind fun q6 => ((d_M_fine q6.2).bind fun q7 => (if q7 = 0 then (d_M_readTurn_62 q6.1 q6.2) else ((d_M_here q6.2).bind fun q8 => (if ¬ q8 = ((97 : Int32) + q6.1) then (d_M_readTurn_62 q6.1 q6.2) else ((d_M_fault (gi q6.2 89 18) q6.2).bind fun q9 => (d_M_readTurn_62 q6.1 q9)))))) := by
    intro h46 h91
    rw [d_M_readTurn, h46, bd_some, if_pos rfl, h91, bd_some, if_neg (show ¬ (1 : Int32) = 0 by decide)]
  have h46 : ¬ T i = 46 → d_M_passes 46 V = some (0, V) := fun hne => passes_n hn l48 (by omega) h t (fun _ _ => hne) n46
  have o46 : T i = 91 → ¬ T i = 46 := fun e => by rw [e]; decide
  rcases dT_cases T hi with ⟨c1, d⟩ | ⟨c1, c2, d⟩ | ⟨c1, c2, c3, d⟩ | ⟨c1, c2, c3, c4, d⟩ | ⟨c1, c2, c3, c4, d⟩ | ⟨c1, d⟩ | ⟨c1, c2, c3, d⟩ <;> rw [d]
  · refine ⟨_, ?_, good [] (i + 1) 0 rfl⟩
    rw [d_M_readTurn, passes_y hn l48 h t i1 i2 c1, bd_some, if_neg (show ¬ (1 : Int32) = 0 by decide)]
    exact fin _ _ (g38 _)
  · refine ⟨_, ?_, badE (i + 1) (i + 1) ((((1 : Int32) <<< ((0 : Int32) &&& 31)) ||| ((1 : Int32) <<< ((0 : Int32) &&& 31)))), badF (i + 1) (i + 1) ((((1 : Int32) <<< ((0 : Int32) &&& 31)) ||| ((1 : Int32) <<< ((0 : Int32) &&& 31))))⟩
    · rw [P0 (h46 (o46 c1)) (passes_y hn l48 h t i1 i2 c1), letter_n hn l48 (by omega) (h.go (i + 1)) (tt _) (fun a b hl => c2 ⟨by omega, hl⟩), bd_some]
      show (d_M_fine (si (si V 89 18 (on (i + 1))) 89 19 (on (i + 1)))).bind _ = _
      rw [fine_n (gF _ _) (by omega), bd_some, if_pos rfl]
      exact f62 _ _ _ (by omega)
  · have L := letter_y hn l48 (h.go (i + 1)) (tt _) (by omega) (by omega) c2.2
    rw [si2] at L
    have l1 := lt_on c2.2
    have h97 : (97 : Int32) + on (lt (T (i + 1))) = T (i + 1) := by rw [← l1.1, Int32.add_comm, Int32.sub_add_cancel]
    refine ⟨_, ?_, badE (i + 2) (i + 2) ((((1 : Int32) <<< (on (lt (T (i + 1))) &&& 31)) ||| ((1 : Int32) <<< ((0 : Int32) &&& 31)))), badF (i + 2) (i + 2) ((((1 : Int32) <<< (on (lt (T (i + 1))) &&& 31)) ||| ((1 : Int32) <<< ((0 : Int32) &&& 31))))⟩
    · rw [P0 (h46 (o46 c1)) (passes_y hn l48 h t i1 i2 c1), L, bd_some]
      show (d_M_fine (si V 89 18 (on (i + 2)))).bind _ = _
      rw [fine_y (h.go (i + 2)).2.2.2.2, bd_some, if_neg (by decide)]
      show (d_M_here (si V 89 18 (on (i + 2)))).bind (fun q8 => if ¬ q8 = (97 : Int32) + on (lt (T (i + 1))) then d_M_readTurn_62 (on (lt (T (i + 1)))) (si V 89 18 (on (i + 2))) else ((d_M_fault (gi (si V 89 18 (on (i + 2))) 89 18) (si V 89 18 (on (i + 2)))).bind fun q9 => d_M_readTurn_62 (on (lt (T (i + 1)))) q9)) = _
      rw [h97]
      have N62 : (i + 2 < n → i + 2 < 48 → ¬ isL (T (i + 2))) → d_M_readTurn_62 (on (lt (T (i + 1)))) (si V 89 18 (on (i + 2))) = some (si (sa (si (si V 89 18 (on (i + 2))) 89 19 (on (i + 2))) 102 c (((1 : Int32) <<< (on (lt (T (i + 1))) &&& 31)) ||| ((1 : Int32) <<< ((0 : Int32) &&& 31)))) 89 38 (on (c + 1))) := by
        intro hnl
        rw [d_M_readTurn_62, letter_n hn l48 (by omega) (h.go (i + 2)) (tt _) hnl, bd_some, need_f (gF _ _) (by omega), bd_some, fin _ _ (g389 _ _)]
      by_cases e : i + 2 < min n 48
      · rw [here_y hn l48 (h.go (i + 2)) (tt _) (by omega) (by omega), bd_some]
        by_cases q : T (i + 2) = T (i + 1)
        · rw [if_neg (fun hn => hn q), (h.go (i + 2)).2.2.2.1, fault_y (h.go (i + 2)).2.2.2.2, bd_some]
          exact f62 _ _ _ (by omega)
        · rw [if_pos q]
          exact N62 (fun _ _ hl => c3 ⟨e, hl, q⟩)
      · rw [here_n hn l48 (by omega) (h.go (i + 2)) (by omega), bd_some, if_pos (fun q => by have := l1.2.2.2; rw [← q] at this; exact absurd this (by decide))]
        exact N62 (fun a b _ => e (by omega))
  · have L := letter_y hn l48 (h.go (i + 1)) (tt _) (by omega) (by omega) c2.2
    rw [si2] at L
    have L2 := letter_y hn l48 (h.go (i + 2)) (tt _) (by omega) (by omega) c3.2.1
    rw [si2] at L2
    have l1 := lt_on c2.2
    have h97 : (97 : Int32) + on (lt (T (i + 1))) = T (i + 1) := by rw [← l1.1, Int32.add_comm, Int32.sub_add_cancel]
    refine ⟨_, ?_, badE (i + 3) (i + 3) ((((1 : Int32) <<< (on (lt (T (i + 1))) &&& 31)) ||| ((1 : Int32) <<< (on (lt (T (i + 2))) &&& 31)))), badF (i + 3) (i + 3) ((((1 : Int32) <<< (on (lt (T (i + 1))) &&& 31)) ||| ((1 : Int32) <<< (on (lt (T (i + 2))) &&& 31))))⟩
    · rw [P0 (h46 (o46 c1)) (passes_y hn l48 h t i1 i2 c1), L, bd_some]
      show (d_M_fine (si V 89 18 (on (i + 2)))).bind _ = _
      rw [fine_y (h.go (i + 2)).2.2.2.2, bd_some, if_neg (by decide)]
      show (d_M_here (si V 89 18 (on (i + 2)))).bind (fun q8 => if ¬ q8 = (97 : Int32) + on (lt (T (i + 1))) then d_M_readTurn_62 (on (lt (T (i + 1)))) (si V 89 18 (on (i + 2))) else ((d_M_fault (gi (si V 89 18 (on (i + 2))) 89 18) (si V 89 18 (on (i + 2)))).bind fun q9 => d_M_readTurn_62 (on (lt (T (i + 1)))) q9)) = _
      rw [h97, here_y hn l48 (h.go (i + 2)) (tt _) (by omega) (by omega), bd_some, if_pos c3.2.2, d_M_readTurn_62, L2, bd_some]
      show (d_M_need 93 (si V 89 18 (on (i + 3)))).bind _ = _
      rw [need_n hn l48 (by omega) (h.go (i + 3)) (tt _) (fun a b hl => c4 ⟨by omega, hl⟩) (by decide), bd_some, fin _ _ (g389 _ _)]
  · have L := letter_y hn l48 (h.go (i + 1)) (tt _) (by omega) (by omega) c2.2
    rw [si2] at L
    have L2 := letter_y hn l48 (h.go (i + 2)) (tt _) (by omega) (by omega) c3.2.1
    rw [si2] at L2
    have NE := need_y (c := 93) hn l48 (h.go (i + 3)) (tt _) (by omega) (by omega) c4.2
    rw [si2] at NE
    have l1 := lt_on c2.2
    have l2 := lt_on c3.2.1
    have h97 : (97 : Int32) + on (lt (T (i + 1))) = T (i + 1) := by rw [← l1.1, Int32.add_comm, Int32.sub_add_cancel]
    refine ⟨_, ?_, good [lt (T (i + 1)), lt (T (i + 2))] (i + 4) (on (2 ^ lt (T (i + 1)) ||| 2 ^ lt (T (i + 2)))) rfl⟩
    rw [P0 (h46 (o46 c1)) (passes_y hn l48 h t i1 i2 c1), L, bd_some]
    show (d_M_fine (si V 89 18 (on (i + 2)))).bind _ = _
    rw [fine_y (h.go (i + 2)).2.2.2.2, bd_some, if_neg (by decide)]
    show (d_M_here (si V 89 18 (on (i + 2)))).bind (fun q8 => if ¬ q8 = (97 : Int32) + on (lt (T (i + 1))) then d_M_readTurn_62 (on (lt (T (i + 1)))) (si V 89 18 (on (i + 2))) else ((d_M_fault (gi (si V 89 18 (on (i + 2))) 89 18) (si V 89 18 (on (i + 2)))).bind fun q9 => d_M_readTurn_62 (on (lt (T (i + 1)))) q9)) = _
    rw [h97, here_y hn l48 (h.go (i + 2)) (tt _) (by omega) (by omega), bd_some, if_pos c3.2.2, d_M_readTurn_62, L2, bd_some]
    show (d_M_need 93 (si V 89 18 (on (i + 3)))).bind _ = _
    rw [NE, bd_some, fin _ _ (g38 _), sh_on (show lt (T (i + 1)) < 7 by omega), or_on _ (pw_lt _ l1.2.1) _ l2.2.1]
  · have n1 : ¬ T i = 46 := fun e => by rw [e] at c1; exact absurd c1.1 (by decide)
    have n2 : ¬ T i = 91 := fun e => by rw [e] at c1; exact absurd c1.1 (by decide)
    refine ⟨_, ?_, good [lt (T i)] (i + 1) (on (2 ^ lt (T i))) rfl⟩
    rw [d_M_readTurn, h46 n1, bd_some, if_pos rfl, passes_n hn l48 (by omega) h t (fun _ _ => n2) n91, bd_some, if_pos rfl, letter_y hn l48 h t i1 i2 c1, bd_some, sh_on (show lt (T i) < 7 by have := (lt_on c1).2.1; omega)]
    show (if ai_in (gi V 89 38) 80 then d_M_readTurn_107 (sa (si V 89 18 (on (i + 1))) 102 (gi V 89 38).toNatClampNeg (on (2 ^ lt (T i)))) else none) = _
    rw [← fin _ _ (g38 (i + 1)), g38, h38]
  · have B : gi (si (sa (si V 89 19 (on i)) 102 c ((1 : Int32) <<< ((0 : Int32) &&& 31))) 89 38 (on (c + 1))) 89 19 = on i := by rw [gi_si, if_neg (by decide), gi_sa, gi_si, if_pos ⟨rfl, rfl⟩]
    refine ⟨_, ?_, B, Fr.si (Fr.sa (Fr.si Fr.rf rfl) rfl) rfl⟩
    rw [d_M_readTurn, h46 c1, bd_some, if_pos rfl, passes_n hn l48 (by omega) h t (fun _ _ => c2) n91, bd_some, if_pos rfl, letter_n hn l48 (by omega) h t (fun _ _ => c3), bd_some]
    show (if ai_in (gi V 89 38) 80 then d_M_readTurn_107 (sa (si V 89 19 (on i)) 102 (gi V 89 38).toNatClampNeg ((1 : Int32) <<< ((0 : Int32) &&& 31))) else none) = _
    have := fin (si V 89 19 (on i)) ((1 : Int32) <<< ((0 : Int32) &&& 31)) (by rw [gi_si, if_neg (by decide), h38])
    rw [← this, show gi (si V 89 19 (on i)) 89 38 = gi V 89 38 by rw [gi_si, if_neg (by decide)]]
