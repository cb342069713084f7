/-! ===== m_: a small machine over abstract cells: what it does is a function; part 05 and on show that the JVM does it too ===== -/
/-- a cell: an array (its type's place, length, contents) or an object (its class's place, fields); a reference in it is a number: 200 + the cell's place; below 200: the script (0) and String constants -/
abbrev m_E : Type := (Nat × vp_A) ⊕ (Nat × List Value)
/-- the heap: the cells; how many cells and slots lie beside them, forgotten -/
abbrev m_H : Type := List m_E × Nat × Nat
abbrev m_L : Type := List (Nat × Value)
/-- what an entry of the constant pool says: fields, classes (to make), texts, longs, ints, methods (own: number; others: by code), texts of exceptions -/
abbrev m_Q : Type := (Nat → Option (Nat × Nat)) × (Nat → Option Nat) × (Nat → Option Nat) × (Nat → Option Int64) × (Nat → Option Int32) × (Nat → Option (Nat ⊕ Nat)) × (Nat → Option Nat)
def m_c (hp : m_H) (r : Nat) : Option m_E := if r < 200 then none else hp.1[r - 200]?
def m_w (hp : m_H) (r : Nat) (e : m_E) : m_H := (hp.1.set (r - 200) e, hp.2)
def m_p (hp : m_H) (e : m_E) : m_H := (hp.1 ++ [e], hp.2)
def m_id (hp : m_H) : Nat := 200 + hp.1.length
def m_sz (e : m_E) : Nat := match e with
  | .inl a => a.2.1
  | .inr o => o.2.length
def m_cells (hp : m_H) : Nat := hp.1.length + hp.2.1
def m_slots (hp : m_H) : Nat := (hp.1.map m_sz).sum + hp.2.2
/-- locals, as the kit's rows have them -/
def m_sv (i : Nat) (v : Value) (lv : m_L) : m_L := (i, v) :: lv.filter (fun q => !(q.1 == i) && !(q.1 + 1 == i && q.2.category == 2))
def m_sw (i : Nat) (v : Value) (lv : m_L) : m_L := (i, v) :: lv.filter (fun q => !(q.1 == i) && (!(q.1 == i + 1) && !(q.1 + 1 == i && q.2.category == 2)))
def m_at (i : Nat) (lv : m_L) : Option Value := (lv.find? (fun q => q.1 == i)).map (fun q => q.2)
/-- fields -/
def m_gf (hp : m_H) (r ci k : Nat) : Option Value := match m_c hp r with
  | some (.inr o) => if o.1 = ci then o.2[k]? else none
  | _ => none
/-- what may be stored in a field of a type -/
def m_ok (ty : FieldType) (v : Value) : Bool := match ty, v with
  | .int, .int _ => true
  | .boolean, .int x => x == 0 || x == 1
  | .array _, .ref _ => true
  | .object _, .ref _ => true
  | .object _, .null => true
  | _, _ => false
def m_pf (ft : Nat → Nat → FieldType) (hp : m_H) (r ci k : Nat) (v : Value) : Option m_H := match m_c hp r with
  | some (.inr o) => if o.1 = ci ∧ k < o.2.length ∧ m_ok (ft ci k) v = true then some (m_w hp r (.inr (ci, o.2.set k v))) else none
  | _ => none
/-- arrays: 0 int, 1 long, 2 byte, 3 boolean, 4 char, 5 of references -/
def m_ty (t : Nat) : FieldType := match t with
  | 0 => .int
  | 1 => .long
  | 2 => .byte
  | 3 => .boolean
  | 4 => .char
  | _ => .object "LendHouse$Act"
def m_in (i : Int32) (n : Nat) : Bool := !(decide (i < 0)) && decide (i.toNatClampNeg < n)
def m_ai (hp : m_H) (t r : Nat) (i : Int32) : Option Int32 := match m_c hp r with
  | some (.inl (t', n, .inl f)) => if t' = t ∧ m_in i n = true then some (f i.toNatClampNeg) else none
  | _ => none
def m_al (hp : m_H) (r : Nat) (i : Int32) : Option Int64 := match m_c hp r with
  | some (.inl (t', n, .inr (.inl f))) => if t' = 1 ∧ m_in i n = true then some (f i.toNatClampNeg) else none
  | _ => none
def m_aq (hp : m_H) (r : Nat) (i : Int32) : Option (Option Nat) := match m_c hp r with
  | some (.inl (t', n, .inr (.inr (.inr (.inr f))))) => if t' = 5 ∧ m_in i n = true then some (f i.toNatClampNeg) else none
  | _ => none
def m_len (hp : m_H) (r : Nat) : Option Int32 := match m_c hp r with
  | some (.inl a) => if a.1 < 6 then some (Int32.ofNat a.2.1) else none
  | _ => none
def m_si (hp : m_H) (t r : Nat) (i x : Int32) : Option m_H := match m_c hp r with
  | some (.inl (t', n, .inl f)) => if t' = t ∧ m_in i n = true then some (m_w hp r (.inl (t, n, .inl (upd f i.toNatClampNeg (vp_nar (m_ty t) x))))) else none
  | _ => none
def m_sl (hp : m_H) (r : Nat) (i : Int32) (x : Int64) : Option m_H := match m_c hp r with
  | some (.inl (t', n, .inr (.inl f))) => if t' = 1 ∧ m_in i n = true then some (m_w hp r (.inl (1, n, .inr (.inl (vp_updL f i.toNatClampNeg x))))) else none
  | _ => none
def m_isO (hp : m_H) (ci r : Nat) : Bool := match m_c hp r with
  | some (.inr o) => o.1 == ci
  | _ => false
def m_sq (hp : m_H) (r : Nat) (i : Int32) (x : Option Nat) : Option m_H := match m_c hp r with
  | some (.inl (t', n, .inr (.inr (.inr (.inr f))))) => if t' = 5 ∧ m_in i n = true ∧ (∀ a, x = some a → m_isO hp 0 a = true) then some (m_w hp r (.inl (5, n, .inr (.inr (.inr (.inr (va_up f i.toNatClampNeg x))))))) else none
  | _ => none
/-- a new array of a type -/
def m_na (t n : Nat) : m_E := match t with
  | 1 => .inl (1, n, .inr (.inl (fun _ => 0)))
  | 5 => .inl (5, n, .inr (.inr (.inr (.inr (fun _ => none)))))
  | t => .inl (t, n, .inl (fun _ => 0))
def m_tof (a : ArrayType) : Option Nat := match a with
  | .int => some 0
  | .long => some 1
  | .byte => some 2
  | .boolean => some 3
  | .char => some 4
  | _ => none
def m_df (ty : FieldType) : Value := match ty with
  | .int => .int 0
  | .boolean => .int 0
  | _ => .null
/-- a new object of a class: how many fields, of which types -/
def m_no (ft : Nat → Nat → FieldType) (fn : Nat → Nat) (ci : Nat) : m_E := .inr (ci, (List.range (fn ci)).map (fun k => m_df (ft ci k)))
/-- the stack -/
def m_i2 (f : Int32 → Int32 → Int32) (st : List Value) : Option (List Value) := match st with
  | .int y :: .int x :: r => some (.int (f x y) :: r)
  | _ => none
def m_l2 (f : Int64 → Int64 → Int64) (st : List Value) : Option (List Value) := match st with
  | .long y :: .long x :: r => some (.long (f x y) :: r)
  | _ => none
def m_i1 (f : Int32 → Value) (st : List Value) : Option (List Value) := match st with
  | .int x :: r => some (f x :: r)
  | _ => none
def m_ldi (i : Nat) (lv : m_L) (st : List Value) : Option (List Value) := match m_at i lv with
  | some (.int x) => some (.int x :: st)
  | _ => none
def m_ldl (i : Nat) (lv : m_L) (st : List Value) : Option (List Value) := match m_at i lv with
  | some (.long x) => some (.long x :: st)
  | _ => none
def m_lda (i : Nat) (lv : m_L) (st : List Value) : Option (List Value) := match m_at i lv with
  | some (.ref x) => some (.ref x :: st)
  | some .null => some (.null :: st)
  | _ => none
def m_sti (i nL : Nat) (lv : m_L) (st : List Value) : Option (m_L × List Value) := match st with
  | .int x :: r => if i < nL then some (m_sv i (.int x) lv, r) else none
  | _ => none
def m_stl (i nL : Nat) (lv : m_L) (st : List Value) : Option (m_L × List Value) := match st with
  | .long x :: r => if i + 1 < nL then some (m_sw i (.long x) lv, r) else none
  | _ => none
def m_sta (i nL : Nat) (lv : m_L) (st : List Value) : Option (m_L × List Value) := match st with
  | .ref x :: r => if i < nL then some (m_sv i (.ref x) lv, r) else none
  | .null :: r => if i < nL then some (m_sv i .null lv, r) else none
  | .retAddr x :: r => if i < nL then some (m_sv i (.retAddr x) lv, r) else none
  | _ => none
/-- one instruction that neither jumps nor calls: locals, stack, heap behind it -/
def m_step (ft : Nat → Nat → FieldType) (fn : Nat → Nat) (xs : Nat → Int32) (L : Nat) (q : m_Q) (nL : Nat) (ins : Instr) (lv : m_L) (st : List Value) (hp : m_H) : Option (m_L × List Value × m_H) := match ins with
  | .iconst n => some (lv, .int (Int32.ofInt n) :: st, hp)
  | .bipush n => some (lv, .int (Int8.ofInt n).toInt32 :: st, hp)
  | .sipush n => some (lv, .int (Int16.ofInt n).toInt32 :: st, hp)
  | .lconst n => some (lv, .long (Int64.ofNat (n : Nat)) :: st, hp)
  | .aconst_null => some (lv, .null :: st, hp)
  | .ldc k => match q.2.2.1 k with
    | some a => some (lv, .ref a :: st, hp)
    | none => (q.2.2.2.2.1 k).map (fun v => (lv, .int v :: st, hp))
  | .ldc_w k => match q.2.2.2.2.1 k with
    | some v => some (lv, .int v :: st, hp)
    | none => none
  | .ldc2_w k => match q.2.2.2.1 k with
    | some v => some (lv, .long v :: st, hp)
    | none => none
  | .iload i => (m_ldi i lv st).map (fun z => (lv, z, hp))
  | .iload_n i => (m_ldi i lv st).map (fun z => (lv, z, hp))
  | .lload i => (m_ldl i lv st).map (fun z => (lv, z, hp))
  | .lload_n i => (m_ldl i lv st).map (fun z => (lv, z, hp))
  | .aload i => (m_lda i lv st).map (fun z => (lv, z, hp))
  | .aload_n i => (m_lda i lv st).map (fun z => (lv, z, hp))
  | .istore i => (m_sti i nL lv st).map (fun z => (z.1, z.2, hp))
  | .istore_n i => (m_sti i nL lv st).map (fun z => (z.1, z.2, hp))
  | .lstore i => (m_stl i nL lv st).map (fun z => (z.1, z.2, hp))
  | .lstore_n i => (m_stl i nL lv st).map (fun z => (z.1, z.2, hp))
  | .astore i => (m_sta i nL lv st).map (fun z => (z.1, z.2, hp))
  | .astore_n i => (m_sta i nL lv st).map (fun z => (z.1, z.2, hp))
  | .iinc i n => match m_at i lv with
    | some (.int x) => if i < nL then some (m_sv i (.int (x + Int32.ofInt n)) lv, st, hp) else none
    | _ => none
  | .pop => match st with
    | v :: r => if v.category = 1 then some (lv, r, hp) else none
    | _ => none
  | .dup => match st with
    | v :: r => if v.category = 1 then some (lv, v :: v :: r, hp) else none
    | _ => none
  | .dup2 => match st with
    | v :: w :: r => if v.category = 1 ∧ w.category = 1 then some (lv, v :: w :: v :: w :: r, hp) else none
    | _ => none
  | .iadd => (m_i2 (fun x y => x + y) st).map (fun z => (lv, z, hp))
  | .isub => (m_i2 (fun x y => x - y) st).map (fun z => (lv, z, hp))
  | .imul => (m_i2 (fun x y => x * y) st).map (fun z => (lv, z, hp))
  | .iand => (m_i2 (fun x y => x &&& y) st).map (fun z => (lv, z, hp))
  | .ior => (m_i2 (fun x y => x ||| y) st).map (fun z => (lv, z, hp))
  | .ixor => (m_i2 (fun x y => x ^^^ y) st).map (fun z => (lv, z, hp))
  | .ishl => (m_i2 (fun x y => x <<< (y &&& 31)) st).map (fun z => (lv, z, hp))
  | .ishr => (m_i2 (fun x y => x >>> (y &&& 31)) st).map (fun z => (lv, z, hp))
  | .iushr => (m_i2 (fun x y => (x.toUInt32 >>> (y.toUInt32 &&& Int32.toUInt32 31)).toInt32) st).map (fun z => (lv, z, hp))
  | .idiv => match st with
    | .int y :: .int x :: r => if y = 0 then none else some (lv, .int (x / y) :: r, hp)
    | _ => none
  | .irem => match st with
    | .int y :: .int x :: r => if y = 0 then none else some (lv, .int (x - x / y * y) :: r, hp)
    | _ => none
  | .ineg => (m_i1 (fun x => .int (-x)) st).map (fun z => (lv, z, hp))
  | .i2l => (m_i1 (fun x => .long x.toInt64) st).map (fun z => (lv, z, hp))
  | .i2c => (m_i1 (fun x => .int (x.toUInt32 % 65536).toInt32) st).map (fun z => (lv, z, hp))
  | .i2b => (m_i1 (fun x => .int x.toInt8.toInt32) st).map (fun z => (lv, z, hp))
  | .ladd => (m_l2 (fun x y => x + y) st).map (fun z => (lv, z, hp))
  | .lsub => (m_l2 (fun x y => x - y) st).map (fun z => (lv, z, hp))
  | .lmul => (m_l2 (fun x y => x * y) st).map (fun z => (lv, z, hp))
  | .ldiv => match st with
    | .long y :: .long x :: r => if y = 0 then none else some (lv, .long (x / y) :: r, hp)
    | _ => none
  | .lcmp => match st with
    | .long y :: .long x :: r => some (lv, .int (lg_cmp x y) :: r, hp)
    | _ => none
  | .getfield k => match st, q.1 k with
    | .ref r :: z, some f => (m_gf hp r f.1 f.2).map (fun v => (lv, v :: z, hp))
    | _, _ => none
  | .putfield k => match st, q.1 k with
    | v :: .ref r :: z, some f => (m_pf ft hp r f.1 f.2 v).map (fun h => (lv, z, h))
    | _, _ => none
  | .arraylength => match st with
    | .ref r :: z => if r = 0 then some (lv, .int (Int32.ofNat L) :: z, hp) else (m_len hp r).map (fun v => (lv, .int v :: z, hp))
    | _ => none
  | .iaload => match st with
    | .int i :: .ref r :: z => if r = 0 then (if m_in i L = true then some (lv, .int (xs i.toNatClampNeg) :: z, hp) else none) else (m_ai hp 0 r i).map (fun v => (lv, .int v :: z, hp))
    | _ => none
  | .caload => match st with
    | .int i :: .ref r :: z => (m_ai hp 4 r i).map (fun v => (lv, .int v :: z, hp))
    | _ => none
  | .baload => match st with
    | .int i :: .ref r :: z => match m_ai hp 2 r i with
      | some v => some (lv, .int v :: z, hp)
      | none => (m_ai hp 3 r i).map (fun v => (lv, .int v :: z, hp))
    | _ => none
  | .laload => match st with
    | .int i :: .ref r :: z => (m_al hp r i).map (fun v => (lv, .long v :: z, hp))
    | _ => none
  | .aaload => match st with
    | .int i :: .ref r :: z => (m_aq hp r i).map (fun v => (lv, va_rf v :: z, hp))
    | _ => none
  | .iastore => match st with
    | .int x :: .int i :: .ref r :: z => (m_si hp 0 r i x).map (fun h => (lv, z, h))
    | _ => none
  | .castore => match st with
    | .int x :: .int i :: .ref r :: z => (m_si hp 4 r i x).map (fun h => (lv, z, h))
    | _ => none
  | .bastore => match st with
    | .int x :: .int i :: .ref r :: z => match m_si hp 2 r i x with
      | some h => some (lv, z, h)
      | none => (m_si hp 3 r i x).map (fun h => (lv, z, h))
    | _ => none
  | .lastore => match st with
    | .long x :: .int i :: .ref r :: z => (m_sl hp r i x).map (fun h => (lv, z, h))
    | _ => none
  | .aastore => match st with
    | .ref x :: .int i :: .ref r :: z => (m_sq hp r i (some x)).map (fun h => (lv, z, h))
    | .null :: .int i :: .ref r :: z => (m_sq hp r i none).map (fun h => (lv, z, h))
    | _ => none
  | .new k => match q.2.1 k with
    | some ci => some (lv, .ref (m_id hp) :: st, m_p hp (m_no ft fn ci))
    | none => none
  | .newarray a => match st, m_tof a with
    | .int n :: z, some t => if n < 0 ∨ 60000000 < n.toNatClampNeg then none else some (lv, .ref (m_id hp) :: z, m_p hp (m_na t n.toNatClampNeg))
    | _, _ => none
  | .anewarray k => match st, q.2.1 k with
    | .int n :: z, some 0 => if n < 0 ∨ 60000000 < n.toNatClampNeg then none else some (lv, .ref (m_id hp) :: z, m_p hp (m_na 5 n.toNatClampNeg))
    | _, _ => none
  | _ => none
/-- jumps -/
def m_cmp (c : Jvm.ClassFile.Cond) (x y : Int32) : Bool := match c with
  | .eq => decide (x = y)
  | .ne => decide (¬ x = y)
  | .lt => decide (x < y)
  | .ge => decide (y ≤ x)
  | .gt => decide (y < x)
  | .le => decide (x ≤ y)
def m_t (pc : Nat) (off : Int) : Option Nat := match (pc : Int) + off with
  | .ofNat t => some t
  | .negSucc _ => none
def m_jump (ins : Instr) (pc : Nat) (st : List Value) : Option (Nat × List Value) := match ins with
  | .goto off => (m_t pc off).map (fun t => (t, st))
  | .if_icmp c off => match st with
    | .int y :: .int x :: r => (m_t pc off).map (fun t => (if m_cmp c x y = true then t else pc + 3, r))
    | _ => none
  | .ifCond c off => match st with
    | .int x :: r => (m_t pc off).map (fun t => (if m_cmp c x 0 = true then t else pc + 3, r))
    | _ => none
  | .ifnull off => match st with
    | .null :: r => (m_t pc off).map (fun t => (t, r))
    | .ref _ :: r => some (pc + 3, r)
    | _ => none
  | .ifnonnull off => match st with
    | .ref _ :: r => (m_t pc off).map (fun t => (t, r))
    | .null :: r => some (pc + 3, r)
    | _ => none
  | .tableswitch d lo hi offs => match st with
    | .int x :: r => if x.toInt < lo ∨ hi < x.toInt then (m_t pc d).map (fun t => (t, r)) else match offs[(x.toInt - lo).toNat]? with
      | some o => (m_t pc o).map (fun t => (t, r))
      | none => none
    | _ => none
  | _ => none
/-- returns -/
def m_rok (ty : FieldType) (v : Int32) : Bool := match ty with
  | .int => true
  | ty => decide (narrow ty (.int v) = .int v)
def m_ret (ret : Option FieldType) (ins : Instr) (st : List Value) : Option (Option Value) := match ins with
  | .return_ => match ret, st with
    | none, [] => some none
    | _, _ => none
  | .ireturn => match ret, st with
    | some ty, [.int v] => if m_rok ty v = true then some (some (.int v)) else none
    | _, _ => none
  | .lreturn => match ret, st with
    | some .long, [.long v] => some (some (.long v))
    | _, _ => none
  | .areturn => match ret, st with
    | some (.object _), [.ref a] => some (some (.ref a))
    | some (.object _), [.null] => some (some .null)
    | _, _ => none
  | _ => none
/-- others' methods: 0 Object(), 1 max, 2 min, 3 max of longs, 4 arraycopy, 5 copyOf, 6 length, 7 charAt -/
def m_cat (st : List Value) : Nat := (st.map fun v => v.category).sum
def m_cpy (hp : m_H) (a0 a : Nat) (sp dp n : Int32) : Option m_H := match m_c hp a0, m_c hp a with
  | some (.inl (0, n0, .inl f)), some (.inl (0, n1, .inl g)) => if ¬ sp < 0 ∧ ¬ dp < 0 ∧ ¬ n < 0 ∧ sp.toNatClampNeg + n.toNatClampNeg ≤ n0 ∧ dp.toNatClampNeg + n.toNatClampNeg ≤ n1 then some (m_w hp a (.inl (0, n1, .inl (va_cpy f g sp.toNatClampNeg dp.toNatClampNeg n.toNatClampNeg)))) else none
  | _, _ => none
def m_cof (hp : m_H) (a : Nat) (n : Int32) : Option m_H := match m_c hp a with
  | some (.inl (0, n0, .inl f)) => if n < 0 ∨ 60000000 < n.toNatClampNeg then none else some (m_p hp (.inl (0, n.toNatClampNeg, .inl (fun j => if j < n0 then f j else 0))))
  | _ => none
def m_n0 (st : List Value) (hp : m_H) : Option (List Value × m_H) := match st with
  | .ref _ :: r => some (r, hp)
  | _ => none
def m_n1 (st : List Value) (hp : m_H) : Option (List Value × m_H) := match st with
  | .int y :: .int x :: r => some (.int (if x < y then y else x) :: r, hp)
  | _ => none
def m_n2 (st : List Value) (hp : m_H) : Option (List Value × m_H) := match st with
  | .int y :: .int x :: r => some (.int (if y < x then y else x) :: r, hp)
  | _ => none
def m_n3 (st : List Value) (hp : m_H) : Option (List Value × m_H) := match st with
  | .long y :: .long x :: r => some (.long (if y < x then x else y) :: r, hp)
  | _ => none
def m_n4 (st : List Value) (hp : m_H) : Option (List Value × m_H) := match st with
  | .int n :: .int dp :: .ref a :: .int sp :: .ref a0 :: r => (m_cpy hp a0 a sp dp n).map (fun h => (r, h))
  | _ => none
def m_n5 (st : List Value) (hp : m_H) : Option (List Value × m_H) := match st with
  | .int n :: .ref a :: r => (m_cof hp a n).map (fun h => (.ref (m_id hp) :: r, h))
  | _ => none
def m_n6 (sl : Nat → List Int32) (st : List Value) (hp : m_H) : Option (List Value × m_H) := match st with
  | .ref a :: r => if a < 200 ∧ 0 < (sl a).length then some (.int (Int32.ofNat (sl a).length) :: r, hp) else none
  | _ => none
def m_n7 (sl : Nat → List Int32) (st : List Value) (hp : m_H) : Option (List Value × m_H) := match st with
  | .int i :: .ref a :: r => if a < 200 ∧ m_in i (sl a).length = true then some (.int ((sl a).getD i.toNatClampNeg 0) :: r, hp) else none
  | _ => none
def m_nat (sl : Nat → List Int32) (code : Nat) (st : List Value) (hp : m_H) : Option (List Value × m_H) := match code with
  | 0 => m_n0 st hp
  | 1 => m_n1 st hp
  | 2 => m_n2 st hp
  | 3 => m_n3 st hp
  | 4 => m_n4 st hp
  | 5 => m_n5 st hp
  | 6 => m_n6 sl st hp
  | 7 => m_n7 sl st hp
  | _ => none
/-- a method: instructions, pool, locals, parameters, answer, handlers (from, to, at, the class's entry, which), class of its object -/
abbrev m_I : Type := List (Nat × Instr × Nat) × m_Q × Nat × Nat × Option FieldType × List (Nat × Nat × Nat × Nat × Nat) × Nat
def m_f (I : m_I) (pc : Nat) : Option (Instr × Nat) := (I.1.find? (fun z => z.1 == pc)).map (fun z => z.2)
/-- a call: which, its arguments, what stays on the stack -/
def m_callV (P : Nat → m_I) (j : Nat) (st : List Value) (hp : m_H) : Option (Nat × List Value × List Value) := match st.drop (P j).2.2.2.1 with
  | .ref r :: rest => if m_isO hp (P j).2.2.2.2.2.2 r = true ∧ (lg_sl (.ref r :: (st.take (P j).2.2.2.1).reverse)).length ≤ (P j).2.2.1 ∧ m_cat rest ≤ 8 then some (j, .ref r :: (st.take (P j).2.2.2.1).reverse, rest) else none
  | _ => none
def m_callS (P : Nat → m_I) (j : Nat) (st : List Value) : Option (Nat × List Value × List Value) := if (P j).2.2.2.1 ≤ st.length ∧ (lg_sl (st.take (P j).2.2.2.1).reverse).length ≤ (P j).2.2.1 ∧ m_cat (st.drop (P j).2.2.2.1) ≤ 8 then some (j, (st.take (P j).2.2.2.1).reverse, st.drop (P j).2.2.2.1) else none
def m_call (P : Nat → m_I) (q : m_Q) (ins : Instr) (st : List Value) (hp : m_H) : Option (Nat × List Value × List Value) := match ins with
  | .invokevirtual k => match q.2.2.2.2.2.1 k with
    | some (.inl j) => m_callV P j st hp
    | _ => none
  | .invokespecial k => match q.2.2.2.2.2.1 k with
    | some (.inl j) => m_callV P j st hp
    | _ => none
  | .invokestatic k => match q.2.2.2.2.2.1 k with
    | some (.inl j) => m_callS P j st
    | _ => none
  | _ => none
def m_ncall (sl : Nat → List Int32) (q : m_Q) (ins : Instr) (st : List Value) (hp : m_H) : Option (List Value × m_H) := match ins with
  | .invokevirtual k => match q.2.2.2.2.2.1 k with
    | some (.inr c) => if m_cat st ≤ 12 then m_nat sl c st hp else none
    | _ => none
  | .invokespecial k => match q.2.2.2.2.2.1 k with
    | some (.inr c) => if m_cat st ≤ 12 then m_nat sl c st hp else none
    | _ => none
  | .invokestatic k => match q.2.2.2.2.2.1 k with
    | some (.inr c) => if m_cat st ≤ 12 then m_nat sl c st hp else none
    | _ => none
  | _ => none
/-- an exception made and thrown: which -/
def m_thr (q : m_Q) (ins : Instr) : Option Nat := match ins with
  | .new k => q.2.2.2.2.2.2 k
  | _ => none
def m_junk (hp : m_H) : m_H := (hp.1, hp.2.1 + 1, hp.2.2 + 6)
def m_hdl (I : m_I) (pc E : Nat) : Option Nat := (I.2.2.2.2.2.1.find? (fun z => decide (z.1 ≤ pc) && decide (pc < z.2.1) && z.2.2.2.2 == E)).map (fun z => z.2.2.1)
abbrev m_O : Type := Option Value ⊕ Nat
def m_run (ft : Nat → Nat → FieldType) (fn : Nat → Nat) (sl : Nat → List Int32) (xs : Nat → Int32) (L : Nat) (P : Nat → m_I) : Nat → Nat → Nat → Nat → m_L → List Value → m_H → Option (m_O × m_H)
  | 0, _, _, _, _, _, _ => none
  | n + 1, d, i, pc, lv, st, hp => match m_f (P i) pc with
    | none => none
    | some (ins, len) => match m_thr (P i).2.1 ins with
      | some E => if 7 ≤ d ∧ m_cat st ≤ 8 then some (.inr E, m_junk hp) else none
      | none => match m_step ft fn xs L (P i).2.1 (P i).2.2.1 ins lv st hp with
        | some z => m_run ft fn sl xs L P n d i (pc + len) z.1 z.2.1 z.2.2
        | none => match m_jump ins pc st with
          | some z => m_run ft fn sl xs L P n d i z.1 lv z.2 hp
          | none => match m_ret (P i).2.2.2.2.1 ins st with
            | some v => some (.inl v, hp)
            | none => match m_ncall sl (P i).2.1 ins st hp with
              | some z => if 7 ≤ d then m_run ft fn sl xs L P n d i (pc + 3) lv z.1 z.2 else none
              | none => match d, m_call P (P i).2.1 ins st hp with
                | d + 1, some z => match m_run ft fn sl xs L P n d z.1 0 (lv_args 0 z.2.1) [] hp with
                  | some (.inl v, h) => m_run ft fn sl xs L P n (d + 1) i (pc + 3) lv (v.toList ++ z.2.2) h
                  | some (.inr E, h) => match m_hdl (P i) pc E with
                    | some t => m_run ft fn sl xs L P n (d + 1) i t lv [.retAddr 0] h
                    | none => some (.inr E, h)
                  | none => none
                | _, _ => none
