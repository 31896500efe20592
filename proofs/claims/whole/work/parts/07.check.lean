/-! ===== what a row of code must be, so that the machine does what the abstract machine does ===== -/
def ai_tbs : List (List Cond) := [k2_sels lw_privs, tables_1_1, tables_1_2, tables_1_3, tables_1_4, tables_1_5, tables_1_6, tables_1_7, tables_1_8]
theorem ai_tbs_in {t : List Cond} (h : t ∈ ai_tbs) : ∀ w ∈ t, w ∈ lw_tbl := by
  intro w hw
  simp only [ai_tbs, List.mem_cons, List.not_mem_nil, or_false] at h
  simp only [lw_tbl, tables_1, List.mem_append]
  rcases h with rfl | rfl | rfl | rfl | rfl | rfl | rfl | rfl | rfl <;> simp [hw]
def ai_wat (q : Int32 × Nat) : Option Cond := (ai_tbs.getD q.1.toNatClampNeg [])[q.2]?
theorem ai_wat_in {q : Int32 × Nat} {w : Cond} (h : ai_wat q = some w) : w ∈ lw_tbl := by
  unfold ai_wat at h
  cases ht : ai_tbs[q.1.toNatClampNeg]? with
  | none => rw [List.getD_eq_getElem?_getD, ht] at h; simp at h
  | some t =>
    rw [List.getD_eq_getElem?_getD, ht] at h
    exact ai_tbs_in (List.mem_of_getElem? ht) w (List.mem_of_getElem? h)
def ai_wd (ps : List (Int32 × Nat)) (ws : List Cond) : Bool := decide (ws.map some = ps.map ai_wat) && ws.all goodWord
theorem ai_wd_spec {ps : List (Int32 × Nat)} {ws : List Cond} (h : ai_wd ps ws = true) : ∀ w ∈ ws, w ∈ GW := by
  simp only [ai_wd, Bool.and_eq_true, decide_eq_true_eq] at h
  intro w hw
  refine GW_of ?_ (List.all_eq_true.mp h.2 w hw)
  have h1 : some w ∈ ps.map ai_wat := by rw [← h.1]; exact List.mem_map.mpr ⟨w, hw, rfl⟩
  obtain ⟨i, -, hi⟩ := List.mem_map.mp h1
  exact ai_wat_in hi
def ai_kc (ci : Nat) : vw_C := kcl.getD ci ("", kc0, 0)
def ai_kt (ci : Nat) : Nat → FieldType := ktl.getD ci kt0
def ai_km (k : Nat) : MethodName × ByteArray × Nat × Option FieldType × Nat × Nat := km.getD k (⟨"", "", ""⟩, ⟨#[]⟩, 0, none, 0, 99)
def ai_ac : Nat → ArrayType
  | 0 => .int
  | 1 => .long
  | 2 => .byte
  | _ => .boolean
def ai_aty : Nat → FieldType
  | 0 => .int
  | 1 => .long
  | 2 => .byte
  | 3 => .boolean
  | _ => .object "RentByTheWheel$State"
def ai_fl (own : String) (a b : Nat) (ts : List (Int32 × Nat)) : Bool := ai_wd ts [.fieldLink own a ((ai_kc (b / 100)).2.1 (b % 100)).1 ((ai_kc (b / 100)).2.1 (b % 100)).2.1 ((ai_kc (b / 100)).2.1 (b % 100)).2.2.1] && decide (b % 100 < (ai_kc (b / 100)).2.2) && decide (b / 100 < 13)
def ai_fd (b : Nat) (fin : Bool) (ty : FieldType) : Bool := decide (((ai_kc (b / 100)).2.1 (b % 100)).2.2.2 = fin) && decide (ai_kt (b / 100) (b % 100) = ty)
def ai_fr (b : Nat) (fin : Bool) : Bool := decide (((ai_kc (b / 100)).2.1 (b % 100)).2.2.2 = fin) && (match ai_kt (b / 100) (b % 100) with
  | .object _ => true
  | .array _ => true
  | _ => false)
def ai_ld_ok (c : ByteArray) (pc nx a b nL : Nat) (i0 : Fin 4 → Instr) (i1 : Nat → Instr) : Bool := match b with
  | 0 => decide (decode c pc = .ok (i0 (Fin.ofNat 4 a), 1)) && decide (a < 4) && decide (nx = pc + 1)
  | _ => decide (decode c pc = .ok (i1 a, 2)) && decide (nx = pc + 2)
def ai_mw (own : String) (a b : Nat) (ts : List (Int32 × Nat)) : Bool := ai_wd ts [.methodLink own a (ai_km b).1, .instanceMethod (ai_km b).1, .selects (ai_km b).1.cls (ai_km b).1 (ai_km b).1, .initialized (ai_km b).1.cls] && decide (b < 259) && (decide ((ai_km b).2.2.2.2.2 = 50 ∧ (ai_km b).1.cls = "java/lang/String") || (decide ((ai_km b).2.2.2.2.2 < 13) && decide ((ai_kc (ai_km b).2.2.2.2.2).1 = (ai_km b).1.cls)))
/-- the branches' instructions -/
def ai_cnd : Nat → ClassFile.Cond
  | 0 => .eq
  | 1 => .ne
  | 2 => .lt
  | 3 => .ge
  | 4 => .gt
  | _ => .le
/-- private constructors that the outer class calls -/
def ai_nst : List (Nat × Nat) := [(9, 78), (18, 11), (55, 63), (95, 83)]
def ai_okb (own : String) (c : ByteArray) (ret : Option FieldType) (nL : Nat) (ini : Bool) (r : ai_r) : Bool := match r with
  | (pc, nx, op, a, b, x, ts) => match op with
    | 0 => (match b with
      | 0 => decide (decode c pc = .ok (.iconst ((a : Int) - 1), 1)) && decide (Int32.ofInt ((a : Int) - 1) = x) && decide (nx = pc + 1)
      | 1 => decide (decode c pc = .ok (.bipush ((a : Int) - 128), 2)) && decide ((Int8.ofInt ((a : Int) - 128)).toInt32 = x) && decide (nx = pc + 2)
      | 2 => decide (decode c pc = .ok (.sipush ((a : Int) - 32768), 3)) && decide ((Int16.ofInt ((a : Int) - 32768)).toInt32 = x) && decide (nx = pc + 3)
      | 3 => decide (decode c pc = .ok (.ldc a, 2)) && ai_wd ts [.constant own a x] && decide (nx = pc + 2)
      | _ => decide (decode c pc = .ok (.ldc_w a, 3)) && ai_wd ts [.constant own a x] && decide (nx = pc + 3))
    | 1 => decide (decode c pc = .ok (.invokestatic a, 3)) && ai_wd ts [.methodLink own a Lib.Math.min.name] && decide (nx = pc + 3)
    | 2 => decide (decode c pc = .ok (.invokestatic a, 3)) && ai_wd ts [.methodLink own a Lib.Math.max.name] && decide (nx = pc + 3)
    | 3 => decide (decode c pc = .ok (.ldc a, 2)) && decide (own = "RentByTheWheel$Rule") && decide (a = 13) && decide (nx = pc + 2)
    | 5 => (match a with
      | 0 => decide (decode c pc = .ok (.lconst (Fin.ofNat 2 b), 1)) && decide (b < 2) && decide (nx = pc + 1)
      | _ => decide (decode c pc = .ok (.ldc2_w a, 3)) && ai_wd ts [.constantLong own a (Int64.ofNat b)] && decide (nx = pc + 3))
    | 7 => ai_ld_ok c pc nx a b nL .iload_n .iload
    | 8 => decide (decode c pc = .ok (.invokestatic a, 3)) && ai_wd ts [.methodLink own a Lib.MathLoose.min_long.x] && decide (nx = pc + 3)
    | 9 => ai_ld_ok c pc nx a b nL .lload_n .lload
    | 10 => decide (decode c pc = .ok (.invokestatic a, 3)) && ai_wd ts [.methodLink own a Lib.MathLoose.max_long.x] && decide (nx = pc + 3)
    | 11 => ai_ld_ok c pc nx a b nL .aload_n .aload
    | 12 => decide (decode c pc = .ok (.getstatic a, 3)) && decide (own = "java/lang/String") && decide (a = 38) && decide (nx = pc + 3)
    | 13 => ai_ld_ok c pc nx a b nL .istore_n .istore && decide (a < nL)
    | 14 => decide (decode c pc = .ok (.getfield a, 3)) && decide (own = "java/lang/String") && decide (a = 9) && decide (nx = pc + 3)
    | 15 => ai_ld_ok c pc nx a b nL .lstore_n .lstore && decide (a + 1 < nL)
    | 16 => decide (decode c pc = .ok (.getfield a, 3)) && decide (own = "java/lang/String") && decide (a = 15) && decide (nx = pc + 3)
    | 17 => ai_ld_ok c pc nx a b nL .astore_n .astore && decide (a < nL)
    | 18 => decide (decode c pc = .ok (.arraylength, 1)) && decide (nx = pc + 1)
    | 19 => decide (decode c pc = .ok (.iinc a ((b : Int) - 128), 3)) && decide (Int32.ofInt ((b : Int) - 128) = x) && decide (a < nL) && decide (nx = pc + 3)
    | 20 => (match b with
      | 20 => decide (decode c pc = .ok (.iadd, 1))
      | 21 => decide (decode c pc = .ok (.isub, 1))
      | 22 => decide (decode c pc = .ok (.imul, 1))
      | 23 => decide (decode c pc = .ok (.iand, 1))
      | 24 => decide (decode c pc = .ok (.ior, 1))
      | 25 => decide (decode c pc = .ok (.ixor, 1))
      | 26 => decide (decode c pc = .ok (.ishl, 1))
      | 27 => decide (decode c pc = .ok (.ishr, 1))
      | 28 => decide (decode c pc = .ok (.iushr, 1))
      | 29 => decide (decode c pc = .ok (.idiv, 1))
      | 30 => decide (decode c pc = .ok (.irem, 1))
      | _ => false) && decide (nx = pc + 1)
    | 21 => decide (decode c pc = .ok (.baload, 1)) && decide (nx = pc + 1)
    | 31 => (match b with
      | 31 => decide (decode c pc = .ok (.ineg, 1))
      | 32 => decide (decode c pc = .ok (.i2b, 1))
      | 33 => decide (decode c pc = .ok (.i2s, 1))
      | 34 => decide (decode c pc = .ok (.i2c, 1))
      | 40 => decide (decode c pc = .ok (.i2l, 1))
      | _ => false) && decide (nx = pc + 1)
    | 35 => (match b with
      | 35 => decide (decode c pc = .ok (.ladd, 1))
      | 36 => decide (decode c pc = .ok (.lsub, 1))
      | 37 => decide (decode c pc = .ok (.lmul, 1))
      | 38 => decide (decode c pc = .ok (.ldiv, 1))
      | 39 => decide (decode c pc = .ok (.lrem, 1))
      | 42 => decide (decode c pc = .ok (.lcmp, 1))
      | _ => false) && decide (nx = pc + 1)
    | 41 => (match b with
      | 41 => decide (decode c pc = .ok (.l2i, 1))
      | 43 => decide (decode c pc = .ok (.dup, 1))
      | 44 => decide (decode c pc = .ok (.pop, 1))
      | 45 => decide (decode c pc = .ok (.dup_x1, 1))
      | 46 => decide (decode c pc = .ok (.dup2, 1))
      | _ => false) && decide (nx = pc + 1)
    | 47 => decide (decode c pc = .ok (.goto ((nx : Int) - (pc : Int)), 3))
    | 48 => decide (decode c pc = .ok (.getfield a, 3)) && ai_fl own a b ts && decide (nx = pc + 3)
    | 49 => decide (decode c pc = .ok (.putfield a, 3)) && ai_fl own a b ts && ai_fd b false .int && decide (nx = pc + 3)
    | 50 => decide (decode c pc = .ok (.putfield a, 3)) && ai_fl own a b ts && ai_fd b false .boolean && decide (nx = pc + 3)
    | 51 => decide (decode c pc = .ok (.putfield a, 3)) && ai_fl own a b ts && ai_fd b false .long && decide (nx = pc + 3)
    | 52 => decide (decode c pc = .ok (.putfield a, 3)) && ai_fl own a b ts && ai_fr b false && decide (nx = pc + 3)
    | 53 => decide (decode c pc = .ok (.putfield a, 3)) && ai_fl own a b ts && ai_fr b true && ini && decide (((ai_kc (b / 100)).2.1 (b % 100)).1 = own) && decide (nx = pc + 3)
    | 54 => decide (decode c pc = .ok (.iaload, 1)) && decide (nx = pc + 1)
    | 55 => decide (decode c pc = .ok (.laload, 1)) && decide (nx = pc + 1)
    | 56 => decide (decode c pc = .ok (.baload, 1)) && decide (nx = pc + 1)
    | 57 => decide (decode c pc = .ok (.baload, 1)) && decide (nx = pc + 1)
    | 58 => decide (decode c pc = .ok (.aaload, 1)) && decide (nx = pc + 1)
    | 59 => decide (decode c pc = .ok (.iastore, 1)) && decide (nx = pc + 1)
    | 60 => decide (decode c pc = .ok (.lastore, 1)) && decide (nx = pc + 1)
    | 61 => decide (decode c pc = .ok (.bastore, 1)) && decide (nx = pc + 1)
    | 62 => decide (decode c pc = .ok (.bastore, 1)) && decide (nx = pc + 1)
    | 63 => decide (decode c pc = .ok (.aastore, 1)) && decide (b = 7) && decide (nx = pc + 1)
    | 64 => decide (decode c pc = .ok (.arraylength, 1)) && decide (nx = pc + 1)
    | 65 => decide (decode c pc = .ok (.new a, 3)) && ai_wd ts [.classLink own a (ai_kc b).1, .instantiable (ai_kc b).1 (ai_kc b).2.2, .initialized (ai_kc b).1] && decide (b < 13) && decide (nx = pc + 3)
    | 66 => decide (decode c pc = .ok (.newarray (ai_ac b), 2)) && ai_wd ts [.arrayClass (ai_aty b)] && decide (b < 4) && decide (nx = pc + 2)
    | 67 => decide (decode c pc = .ok (.anewarray a, 3)) && ai_wd ts [.classLink own a "RentByTheWheel$State"] && decide (nx = pc + 3)
    | 68 => decide (decode c pc = .ok (.invokespecial a, 3)) && ai_wd ts [.methodLink own a objectInit] && decide (nx = pc + 3)
    | 69 => decide (decode c pc = .ok (.invokestatic a, 3)) && ai_wd ts [.methodLink own a arraycopyName] && decide (nx = pc + 3)
    | 82 => decide (decode c pc = .ok (.if_acmp .ne ((b : Int) - (pc : Int)), 3)) && decide (nx = pc + 3)
    | 83 => (match b with
      | 0 => decide (decode c pc = .ok (.tableswitch ((a : Int) - pc) x.toInt (x.toInt + ts.length - 1) (ts.map (fun q => (q.2 : Int) - pc)).toArray, nx - pc)) && decide (0 ≤ x) && decide (ts.length < 100) && decide (x.toInt < 1000) && ai_kchk x.toInt.toNat ts
      | _ => decide (decode c pc = .ok (.lookupswitch ((a : Int) - pc) (ts.map (fun q => (q.1.toInt, (q.2 : Int) - pc))).toArray, nx - pc)) && (((ts.map (fun q => (q.1.toInt, (q.2 : Int) - (pc : Int)))).zip ((ts.map (fun q => (q.1.toInt, (q.2 : Int) - (pc : Int)))).drop 1)).all (fun (a, next) => a.1 < next.1)))
    | 90 => decide (decode c pc = .ok (.invokevirtual a, 3)) && ai_mw own a b ts && decide (nx = pc + 3)
    | 91 => decide (decode c pc = .ok (.invokestatic a, 3)) && ai_wd ts [.methodLink own a (ai_km b).1, .static (ai_km b).1, .initialized (ai_km b).1.cls] && decide (b < 259) && decide (nx = pc + 3)
    | 92 => decide (decode c pc = .ok (.invokespecial a, 3)) && ai_wd ts [.methodLink own a (ai_km b).1, .instanceMethod (ai_km b).1, .initialized (ai_km b).1.cls] && decide ((ai_km b).1.name = "<init>") && decide ((ai_km b).2.2.2.1 = none) && decide (b < 259) && decide (nx = pc + 3)
    | 93 => decide (decode c pc = .ok (.invokespecial a, 3)) && decide (own = "RentByTheWheel") && decide ((a, b) ∈ ai_nst) && ai_wd ts [.instanceMethod (ai_km b).1, .initialized (ai_km b).1.cls] && decide ((ai_km b).1.name = "<init>") && decide ((ai_km b).2.2.2.1 = none) && decide (b < 259) && decide (nx = pc + 3)
    | 94 => decide (decode c pc = .ok (.ireturn, 1)) && decide (ret = some .int)
    | 95 => decide (decode c pc = .ok (.ireturn, 1)) && decide (ret = some .boolean)
    | 96 => decide (decode c pc = .ok (.lreturn, 1)) && decide (ret = some .long)
    | 97 => decide (decode c pc = .ok (.areturn, 1)) && decide (ret = some (.object "RentByTheWheel$State"))
    | 98 => decide (decode c pc = .ok (.return_, 1)) && decide (ret = none)
    | 99 => decide (decode c pc = .ok (.ireturn, 1)) && decide (ret = some .byte)
    | op => if op < 70 then false else if op < 76 then decide (decode c pc = .ok (.ifCond (ai_cnd (op - 70)) ((b : Int) - (pc : Int)), 3)) && decide (nx = pc + 3) else if op < 82 then decide (decode c pc = .ok (.if_icmp (ai_cnd (op - 76)) ((b : Int) - (pc : Int)), 3)) && decide (nx = pc + 3) else decide (100 ≤ op)
def ai_okm (k : Nat) : Bool := (ai_C k).all (ai_okb (ai_km k).1.cls (ai_km k).2.1 (ai_km k).2.2.2.1 (ai_km k).2.2.1 (decide ((ai_km k).1.name = "<init>")))
