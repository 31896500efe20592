/-! ===== an abstract machine over a fixed shape of cells: what a method does to numbers ===== -/
/-- the numbers that the cells hold: int fields, long fields, int arrays, long arrays (object, place), fields that hold a changing reference -/
abbrev ai_V : Type := (Nat → Nat → Int32) × (Nat → Nat → Int64) × (Nat → Nat → Int32) × (Nat → Nat → Int64) × (Nat → Nat → Option Nat)
def ai_u {α : Type} (f : Nat → Nat → α) (o k : Nat) (x : α) : Nat → Nat → α := fun a b => if a = o then (if b = k then x else f a b) else f a b
def gi (V : ai_V) (o k : Nat) : Int32 := V.1 o k
def gj (V : ai_V) (o k : Nat) : Int64 := V.2.1 o k
def ga (V : ai_V) (o k : Nat) : Int32 := V.2.2.1 o k
def gl (V : ai_V) (o k : Nat) : Int64 := V.2.2.2.1 o k
def gr (V : ai_V) (o k : Nat) : Option Nat := V.2.2.2.2 o k
def si (V : ai_V) (o k : Nat) (x : Int32) : ai_V := (ai_u V.1 o k x, V.2)
def sj (V : ai_V) (o k : Nat) (x : Int64) : ai_V := (V.1, ai_u V.2.1 o k x, V.2.2)
def sa (V : ai_V) (o k : Nat) (x : Int32) : ai_V := (V.1, V.2.1, ai_u V.2.2.1 o k x, V.2.2.2)
def sl (V : ai_V) (o k : Nat) (x : Int64) : ai_V := (V.1, V.2.1, V.2.2.1, ai_u V.2.2.2.1 o k x, V.2.2.2.2)
def sr (V : ai_V) (o k : Nat) (x : Option Nat) : ai_V := (V.1, V.2.1, V.2.2.1, V.2.2.2.1, ai_u V.2.2.2.2 o k x)
/-- an array is made anew: all its places hold 0 -/
def ai_z (V : ai_V) (o : Nat) : ai_V := (V.1, V.2.1, (fun a b => if a = o then 0 else V.2.2.1 a b), (fun a b => if a = o then 0 else V.2.2.2.1 a b), V.2.2.2.2)
/-- an object is made anew: all its fields hold 0 -/
def ai_zf (V : ai_V) (o : Nat) : ai_V := ((fun a b => if a = o then 0 else V.1 a b), (fun a b => if a = o then 0 else V.2.1 a b), V.2.2.1, V.2.2.2.1, (fun a b => if a = o then none else V.2.2.2.2 a b))
/-- the shape: a world's things, their numbers left open; .int, .long, .double in an object's list: an int, a long, a changing reference -/
abbrev ai_S : Type := List va_E
abbrev ai_L : Type := List (Nat × Value)
/-- a row of code: pc, the next pc, what is done, its numbers, a constant, a switch's rows -/
abbrev ai_r : Type := Nat × Nat × Nat × Nat × Nat × Int32 × List (Int32 × Nat)
abbrev ai_q : Type := Nat × Nat × Nat × Nat × Int32 × List (Int32 × Nat)
def ai_at : List ai_r → Nat → Option ai_q
  | [], _ => none
  | r :: rs, pc => cond (Nat.beq r.1 pc) (some r.2) (ai_at rs pc)
def ai_get : ai_L → Nat → Option Value
  | [], _ => none
  | q :: l, i => cond (Nat.beq q.1 i) (some q.2) (ai_get l i)
def ai_st1 (l : ai_L) (i : Nat) (v : Value) : ai_L := (i, v) :: l.filter (fun q => !(q.1 == i) && !(q.1 + 1 == i && q.2.category == 2))
def ai_st2 (l : ai_L) (i : Nat) (v : Value) : ai_L := (i, v) :: l.filter (fun q => !(q.1 == i) && (!(q.1 == i + 1) && !(q.1 + 1 == i && q.2.category == 2)))
def ai_fv (V : ai_V) (o k : Nat) (v : Value) : Value := match v with
  | .int _ => .int (gi V o k)
  | .long _ => .long (gj V o k)
  | .double _ => va_rf (gr V o k)
  | v => v
/-- the object o of class ci: its list of fields -/
def ai_ob (S : ai_S) (o ci : Nat) : Option (List Value) := match S[o]? with
  | some (.inr (c, fs)) => cond (Nat.beq c ci) (some fs) none
  | _ => none
/-- the array o of ints (kind t): its length -/
def ai_ai (S : ai_S) (o t : Nat) : Option Nat := match S[o]? with
  | some (.inl (c, n, .inl _)) => cond (Nat.beq c t) (some n) none
  | _ => none
def ai_al (S : ai_S) (o t : Nat) : Option Nat := match S[o]? with
  | some (.inl (c, n, .inr (.inl _))) => cond (Nat.beq c t) (some n) none
  | _ => none
def ai_ar (S : ai_S) (o t : Nat) : Option (Nat × (Nat → Option Nat)) := match S[o]? with
  | some (.inl (c, n, .inr (.inr (.inr (.inr f))))) => cond (Nat.beq c t) (some (n, f)) none
  | _ => none
abbrev ai_in (i : Int32) (n : Nat) : Prop := ¬ (i < 0 ∨ n ≤ i.toNatClampNeg)
def ai_sel : List (Int32 × Nat) → Nat → Int32 → Nat
  | [], d, _ => d
  | q :: ts, d, x => if x = q.1 then q.2 else ai_sel ts d x
/-- a value that stays what it is while cells are made -/
def ai_sc (n : Nat) : Value → Bool
  | .ref r => Nat.blt r n
  | _ => true
def ai_scr (n : Nat) : Option Nat → Bool
  | some r => Nat.blt r n
  | none => true
def ai_scv (n : Nat) (V : ai_V) (o k : Nat) (v : Value) : Bool := match v with
  | .double _ => ai_scr n (gr V o k)
  | v => ai_sc n v
def ai_scF (n : Nat) (V : ai_V) (o : Nat) : Nat → List Value → Bool
  | _, [] => true
  | k, v :: fs => ai_scv n V o k v && ai_scF n V o (k + 1) fs
def ai_scA (f : Nat → Option Nat) (n : Nat) : Nat → Bool
  | 0 => true
  | m + 1 => ai_scr n (f m) && ai_scA f n m
def ai_scE (n : Nat) (V : ai_V) (o : Nat) (e : va_E) : Bool := match e with
  | .inr q => ai_scF n V o 0 q.2
  | .inl (_, m, .inr (.inr (.inr (.inr f)))) => ai_scA f n m
  | _ => true
def ai_scS (n : Nat) (V : ai_V) : Nat → ai_S → Bool
  | _, [] => true
  | o, e :: S => ai_scE n V o e && ai_scS n V (o + 1) S
def ai_fs (n : Nat) (l : ai_L) (st : List Value) : Bool := l.all (fun q => ai_sc n q.2) && st.all (ai_sc n)
/-- cells may be made here -/
def ai_free (l : ai_L) (st : List Value) (S : ai_S) (V : ai_V) : Bool := ai_fs S.length l st && ai_scS S.length V 0 S && Nat.blt S.length 999000
/-- the fresh fields of an object of class ci -/
abbrev ai_X : Type := Option (ai_L × List Value × ai_S × ai_V)
def ai_bin (op : Nat) (x y : Int32) : Option Int32 := match op with
  | 20 => some (x + y)
  | 21 => some (x - y)
  | 22 => some (x * y)
  | 23 => some (x &&& y)
  | 24 => some (x ||| y)
  | 25 => some (x ^^^ y)
  | 26 => some (x <<< (y &&& 31))
  | 27 => some (x >>> (y &&& 31))
  | 28 => some (x.toUInt32 >>> (y.toUInt32 &&& Int32.toUInt32 31)).toInt32
  | 29 => if y = 0 then none else some (x / y)
  | 30 => if y = 0 then none else some (x - x / y * y)
  | _ => none
def ai_un (op : Nat) (x : Int32) : Option Value := match op with
  | 31 => some (.int (-x))
  | 32 => some (.int x.toInt8.toInt32)
  | 33 => some (.int x.toInt16.toInt32)
  | 34 => some (.int (x.toUInt32 % 65536).toInt32)
  | 40 => some (.long x.toInt64)
  | _ => none
def ai_bil (op : Nat) (x y : Int64) : Option Value := match op with
  | 35 => some (.long (x + y))
  | 36 => some (.long (x - y))
  | 37 => some (.long (x * y))
  | 38 => if y = 0 then none else some (.long (x / y))
  | 39 => if y = 0 then none else some (.long (x - x / y * y))
  | 42 => some (.int (lg_cmp x y))
  | _ => none
def ai_isI : Value → Bool
  | .int _ => true
  | _ => false
def ai_isJ : Value → Bool
  | .long _ => true
  | _ => false
def ai_isR : Value → Bool
  | .ref _ => true
  | _ => false
def ai_ld (p : Value → Bool) (a : Nat) (l : ai_L) (st : List Value) (S : ai_S) (V : ai_V) : ai_X := match ai_get l a with
  | some v => cond (p v) (some (l, v :: st, S, V)) none
  | none => none
def ai_str (p : Value → Bool) (w : ai_L → Nat → Value → ai_L) (a : Nat) (l : ai_L) (st : List Value) (S : ai_S) (V : ai_V) : ai_X := match st with
  | v :: st => cond (p v) (some (w l a v, st, S, V)) none
  | _ => none
def ai_inc (a : Nat) (x : Int32) (l : ai_L) (st : List Value) (S : ai_S) (V : ai_V) : ai_X := match ai_get l a with
  | some (.int y) => some (ai_st1 l a (.int (y + x)), st, S, V)
  | _ => none
def ai_arith (op : Nat) (l : ai_L) (st : List Value) (S : ai_S) (V : ai_V) : ai_X := match st with
  | .int y :: .int x :: st => (ai_bin op x y).bind fun z => some (l, .int z :: st, S, V)
  | _ => none
def ai_arith1 (op : Nat) (l : ai_L) (st : List Value) (S : ai_S) (V : ai_V) : ai_X := match st with
  | .int x :: st => (ai_un op x).bind fun z => some (l, z :: st, S, V)
  | _ => none
def ai_arithL (op : Nat) (l : ai_L) (st : List Value) (S : ai_S) (V : ai_V) : ai_X := match st with
  | .long y :: .long x :: st => (ai_bil op x y).bind fun z => some (l, z :: st, S, V)
  | _ => none
def ai_cat1 : Value → Bool
  | .long _ => false
  | .double _ => false
  | _ => true
def ai_stk (op : Nat) (l : ai_L) (st : List Value) (S : ai_S) (V : ai_V) : ai_X := match op, st with
  | 41, .long x :: st => some (l, .int x.toInt32 :: st, S, V)
  | 43, v :: st => cond (ai_cat1 v) (some (l, v :: v :: st, S, V)) none
  | 44, v :: st => cond (ai_cat1 v) (some (l, st, S, V)) none
  | 45, v :: w :: st => cond (ai_cat1 v && ai_cat1 w) (some (l, v :: w :: v :: st, S, V)) none
  | 46, v :: w :: st => cond (ai_cat1 v && ai_cat1 w) (some (l, v :: w :: v :: w :: st, S, V)) none
  | _, _ => none
def ai_gf (ci k : Nat) (l : ai_L) (st : List Value) (S : ai_S) (V : ai_V) : ai_X := match st with
  | .ref o :: st => match ai_ob S o ci with
    | some fs => match fs[k]? with
      | some v => some (l, ai_fv V o k v :: st, S, V)
      | none => none
    | none => none
  | _ => none
def ai_pI (ci k : Nat) (l : ai_L) (st : List Value) (S : ai_S) (V : ai_V) : ai_X := match st with
  | .int x :: .ref o :: st => match ai_ob S o ci with
    | some fs => match fs[k]? with
      | some (.int _) => some (l, st, S, si V o k x)
      | _ => none
    | none => none
  | _ => none
def ai_pZ (ci k : Nat) (l : ai_L) (st : List Value) (S : ai_S) (V : ai_V) : ai_X := match st with
  | .int x :: .ref o :: st => match ai_ob S o ci with
    | some fs => match fs[k]? with
      | some (.int _) => if x = 0 ∨ x = 1 then some (l, st, S, si V o k x) else none
      | _ => none
    | none => none
  | _ => none
def ai_pJ (ci k : Nat) (l : ai_L) (st : List Value) (S : ai_S) (V : ai_V) : ai_X := match st with
  | .long x :: .ref o :: st => match ai_ob S o ci with
    | some fs => match fs[k]? with
      | some (.long _) => some (l, st, S, sj V o k x)
      | _ => none
    | none => none
  | _ => none
/-- a reference is put: into a changing place, or into one that it settles -/
def ai_pA (ci k : Nat) (l : ai_L) (st : List Value) (S : ai_S) (V : ai_V) : ai_X := match st with
  | .ref r :: .ref o :: st => match ai_ob S o ci with
    | some fs => match fs[k]? with
      | some (.double _) => some (l, st, S, sr V o k (some r))
      | some .null => some (l, st, S.set o (.inr (ci, fs.set k (.ref r))), V)
      | _ => none
    | none => none
  | _ => none
def ai_ldi (t : Nat) (l : ai_L) (st : List Value) (S : ai_S) (V : ai_V) : ai_X := match st with
  | .int i :: .ref o :: st => match ai_ai S o t with
    | some n => if ai_in i n then some (l, .int (ga V o i.toNatClampNeg) :: st, S, V) else none
    | none => none
  | _ => none
def ai_ldl (t : Nat) (l : ai_L) (st : List Value) (S : ai_S) (V : ai_V) : ai_X := match st with
  | .int i :: .ref o :: st => match ai_al S o t with
    | some n => if ai_in i n then some (l, .long (gl V o i.toNatClampNeg) :: st, S, V) else none
    | none => none
  | _ => none
def ai_lda (t : Nat) (l : ai_L) (st : List Value) (S : ai_S) (V : ai_V) : ai_X := match st with
  | .int i :: .ref o :: st => match ai_ar S o t with
    | some (n, f) => if ai_in i n then some (l, va_rf (f i.toNatClampNeg) :: st, S, V) else none
    | none => none
  | _ => none
def ai_sti (t : Nat) (g : Int32 → Int32) (l : ai_L) (st : List Value) (S : ai_S) (V : ai_V) : ai_X := match st with
  | .int x :: .int i :: .ref o :: st => match ai_ai S o t with
    | some n => if ai_in i n then some (l, st, S, sa V o i.toNatClampNeg (g x)) else none
    | none => none
  | _ => none
def ai_stl (t : Nat) (l : ai_L) (st : List Value) (S : ai_S) (V : ai_V) : ai_X := match st with
  | .long x :: .int i :: .ref o :: st => match ai_al S o t with
    | some n => if ai_in i n then some (l, st, S, sl V o i.toNatClampNeg x) else none
    | none => none
  | _ => none
def ai_sta (t ci : Nat) (l : ai_L) (st : List Value) (S : ai_S) (V : ai_V) : ai_X := match st with
  | .ref r :: .int i :: .ref o :: st => match ai_ar S o t with
    | some (n, f) => match ai_ob S r ci with
      | some _ => if ai_in i n then some (l, st, S.set o (.inl (t, n, .inr (.inr (.inr (.inr (va_up f i.toNatClampNeg (some r))))))), V) else none
      | none => none
    | none => none
  | _ => none
def ai_len (l : ai_L) (st : List Value) (S : ai_S) (V : ai_V) : ai_X := match st with
  | .ref o :: st => match S[o]? with
    | some (.inl (t, n, _)) => cond (Nat.blt t 5) (some (l, .int (Int32.ofNat n) :: st, S, V)) none
    | _ => none
  | _ => none
def ai_newO (ci : Nat) (fs : List Value) (l : ai_L) (st : List Value) (S : ai_S) (V : ai_V) : ai_X :=
  cond (ai_free l st S V) (some (l, .ref S.length :: st, S ++ [.inr (ci, fs)], ai_zf V S.length)) none
def ai_newA (t : Nat) (l : ai_L) (st : List Value) (S : ai_S) (V : ai_V) : ai_X := match st with
  | .int i :: st => if 0 ≤ i ∧ i ≤ 100000 then cond (ai_free l st S V) (some (l, .ref S.length :: st, S ++ [.inl (t, i.toNatClampNeg, (if t = 1 then .inr (.inl (fun _ => 0)) else .inl (fun _ => 0)))], ai_z V S.length)) none else none
  | _ => none
def ai_newR (t : Nat) (l : ai_L) (st : List Value) (S : ai_S) (V : ai_V) : ai_X := match st with
  | .int i :: st => if 0 ≤ i ∧ i ≤ 100000 then cond (ai_free l st S V) (some (l, .ref S.length :: st, S ++ [.inl (t, i.toNatClampNeg, .inr (.inr (.inr (.inr (fun _ => none)))))], V)) none else none
  | _ => none
def ai_cpy (V : ai_V) (o r sp dp n : Nat) : ai_V := (V.1, V.2.1, (fun a => if a = r then va_cpy (V.2.2.1 o) (V.2.2.1 r) sp dp n else V.2.2.1 a), V.2.2.2)
def ai_acp (l : ai_L) (st : List Value) (S : ai_S) (V : ai_V) : ai_X := match st with
  | .int n :: .int dp :: .ref r :: .int sp :: .ref o :: st => match ai_ai S o 0, ai_ai S r 0 with
    | some n0, some n1 => if 0 ≤ sp ∧ 0 ≤ dp ∧ 0 ≤ n ∧ sp.toNatClampNeg + n.toNatClampNeg ≤ n0 ∧ dp.toNatClampNeg + n.toNatClampNeg ≤ n1 ∧ (st.map fun v => v.category).sum ≤ 8 then some (l, st, S, ai_cpy V o r sp.toNatClampNeg dp.toNatClampNeg n.toNatClampNeg) else none
    | _, _ => none
  | _ => none
def ai_min (x y : Int32) : Int32 := if y < x then y else x
def ai_max (x y : Int32) : Int32 := if x < y then y else x
def ai_minL (x y : Int64) : Int64 := if y < x then y else x
def ai_maxL (x y : Int64) : Int64 := if y < x then x else y
def ai_mI (f : Int32 → Int32 → Int32) (l : ai_L) (st : List Value) (S : ai_S) (V : ai_V) : ai_X := match st with
  | .int y :: .int x :: st => cond (Nat.ble (st.map fun v => v.category).sum 8) (some (l, .int (f x y) :: st, S, V)) none
  | _ => none
def ai_mJ (f : Int64 → Int64 → Int64) (l : ai_L) (st : List Value) (S : ai_S) (V : ai_V) : ai_X := match st with
  | .long y :: .long x :: st => cond (Nat.ble (st.map fun v => v.category).sum 8) (some (l, .long (f x y) :: st, S, V)) none
  | _ => none
/-- the constant text: its bytes; what is read of it stands outside the world -/
def ai_sb (j : Nat) : Int32 := ([116, 112, 119, 108, 110, 113, 121] : List Int32).getD j 0
def ai_x1 (q : Nat) (v : Value) (l : ai_L) (st : List Value) (S : ai_S) (V : ai_V) : ai_X := match st with
  | .ref o :: st => cond (Nat.beq o q) (some (l, v :: st, S, V)) none
  | _ => none
def ai_xb (l : ai_L) (st : List Value) (S : ai_S) (V : ai_V) : ai_X := match st with
  | .int i :: .ref o :: st => cond (Nat.beq o 999998) (if ai_in i 7 then some (l, .int (ai_sb i.toNatClampNeg) :: st, S, V) else none) none
  | _ => none
/-- the fields of a class when an object of it is made -/
abbrev ai_F0 : Type := Nat → List Value
/-- one row of code that neither branches nor calls -/
def ai_ex (F : ai_F0) (op a b : Nat) (x : Int32) (l : ai_L) (st : List Value) (S : ai_S) (V : ai_V) : ai_X := match op with
  | 0 => some (l, .int x :: st, S, V)
  | 1 => ai_mI ai_min l st S V
  | 2 => ai_mI ai_max l st S V
  | 3 => some (l, .ref 999999 :: st, S, V)
  | 5 => some (l, .long (Int64.ofNat b) :: st, S, V)
  | 7 => ai_ld ai_isI a l st S V
  | 8 => ai_mJ ai_minL l st S V
  | 9 => ai_ld ai_isJ a l st S V
  | 10 => ai_mJ ai_maxL l st S V
  | 11 => ai_ld ai_isR a l st S V
  | 12 => some (l, .int 1 :: st, S, V)
  | 13 => ai_str ai_isI ai_st1 a l st S V
  | 14 => ai_x1 999999 (.ref 999998) l st S V
  | 15 => ai_str ai_isJ ai_st2 a l st S V
  | 16 => ai_x1 999999 (.int 0) l st S V
  | 17 => ai_str ai_isR ai_st1 a l st S V
  | 18 => ai_x1 999998 (.int 7) l st S V
  | 19 => ai_inc a x l st S V
  | 20 => ai_arith b l st S V
  | 21 => ai_xb l st S V
  | 31 => ai_arith1 b l st S V
  | 35 => ai_arithL b l st S V
  | 41 => ai_stk b l st S V
  | 47 => some (l, st, S, V)
  | 48 => ai_gf (b / 100) (b % 100) l st S V
  | 49 => ai_pI (b / 100) (b % 100) l st S V
  | 50 => ai_pZ (b / 100) (b % 100) l st S V
  | 51 => ai_pJ (b / 100) (b % 100) l st S V
  | 52 => ai_pA (b / 100) (b % 100) l st S V
  | 53 => ai_pA (b / 100) (b % 100) l st S V
  | 54 => ai_ldi 0 l st S V
  | 55 => ai_ldl 1 l st S V
  | 56 => ai_ldi 2 l st S V
  | 57 => ai_ldi 3 l st S V
  | 58 => ai_lda 4 l st S V
  | 59 => ai_sti 0 (fun x => x) l st S V
  | 60 => ai_stl 1 l st S V
  | 61 => ai_sti 2 (vp_nar .byte) l st S V
  | 62 => ai_sti 3 (vp_nar .boolean) l st S V
  | 63 => ai_sta 4 b l st S V
  | 64 => ai_len l st S V
  | 65 => ai_newO b (F b) l st S V
  | 66 => ai_newA b l st S V
  | 67 => ai_newR 4 l st S V
  | 68 => match st with
    | .ref _ :: st => cond (Nat.ble (st.map fun v => v.category).sum 8) (some (l, st, S, V)) none
    | _ => none
  | 69 => ai_acp l st S V
  | _ => none
/-- where a branch goes, and what is left of the stack -/
def ai_br (op a b nx : Nat) (ts : List (Int32 × Nat)) (st : List Value) (S : ai_S) : Option (Nat × List Value) := match op, st with
  | 70, .int x :: st => some (if x = 0 then b else nx, st)
  | 71, .int x :: st => some (if ¬ x = 0 then b else nx, st)
  | 72, .int x :: st => some (if x < 0 then b else nx, st)
  | 73, .int x :: st => some (if 0 ≤ x then b else nx, st)
  | 74, .int x :: st => some (if 0 < x then b else nx, st)
  | 75, .int x :: st => some (if x ≤ 0 then b else nx, st)
  | 76, .int y :: .int x :: st => some (if x = y then b else nx, st)
  | 77, .int y :: .int x :: st => some (if ¬ x = y then b else nx, st)
  | 78, .int y :: .int x :: st => some (if x < y then b else nx, st)
  | 79, .int y :: .int x :: st => some (if y ≤ x then b else nx, st)
  | 80, .int y :: .int x :: st => some (if y < x then b else nx, st)
  | 81, .int y :: .int x :: st => some (if x ≤ y then b else nx, st)
  | 82, .ref y :: .ref x :: st => match S[x]?, S[y]? with
    | some _, some _ => some (if ¬ x = y then b else nx, st)
    | _, _ => none
  | 83, .int x :: st => some (ai_sel ts a x, st)
  | _, _ => none
def ai_kchk : Nat → List (Int32 × Nat) → Bool
  | _, [] => true
  | n, q :: ts => decide (q.1 = nI n) && ai_kchk (n + 1) ts
