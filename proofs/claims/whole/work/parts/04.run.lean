def z_txt : Nat → List Int32 := fun k => match k with
  | 200 => [100, 105, 115, 107]
  | 201 => [112, 97, 114, 116, 105, 116, 105, 111, 110]
  | 202 => [102, 105, 108, 101]
  | 203 => [100, 105, 114]
  | 204 => [97, 116, 116, 114]
  | _ => []
/-! THE INTERPRETER: the bytecode of class, model and law over a plain state; no machine. z_run fuel method pc locals stack state -/
abbrev zSt : Type := (Nat → Nat → Int32) × (Nat → Nat → Option Nat) × (Nat → Nat → Int32) × Int64 × UInt64
abbrev zOut : Type := (Option Value ⊕ Nat) × zSt × Nat
abbrev zL : Type := List (Option Value)
def z_up {α : Type} (f : Nat → Nat → α) (k j : Nat) (v : α) : Nat → Nat → α := fun a b => if a = k ∧ b = j then v else f a b
/-- the cells: what each is (0 to 6 an object of that class; 10 ints, 11 booleans, 12 longs, 13 doubles, 14 rows of ints), its length -/
def z_lay : List (Nat × Nat) := [(5, 17), (10, 800), (3, 10), (10, 0), (2, 16), (10, 4), (10, 4), (10, 4), (10, 24), (10, 24), (10, 24), (10, 24), (10, 24), (10, 24), (10, 24), (10, 24), (10, 24), (10, 24), (2, 16), (10, 4), (10, 4), (10, 4), (10, 24), (10, 24), (10, 24), (10, 24), (10, 24), (10, 24), (10, 24), (10, 24), (10, 24), (10, 24), (2, 16), (10, 4), (10, 4), (10, 4), (10, 24), (10, 24), (10, 24), (10, 24), (10, 24), (10, 24), (10, 24), (10, 24), (10, 24), (10, 24), (10, 41), (10, 11), (1, 7), (10, 4), (10, 4), (10, 24), (10, 24), (10, 24), (4, 6), (10, 105), (10, 105), (10, 105), (10, 4), (10, 24), (1, 7), (10, 4), (10, 4), (10, 24), (10, 24), (10, 24), (4, 6), (10, 105), (10, 105), (10, 105), (10, 4), (10, 24), (0, 12), (10, 25), (10, 25), (14, 25), (10, 25), (10, 25), (10, 25), (10, 25), (10, 25), (10, 25), (10, 25), (10, 25), (10, 25), (10, 25), (10, 25), (10, 25), (10, 25), (10, 25), (10, 25), (10, 25), (10, 25), (10, 25), (10, 25), (10, 25), (10, 25), (10, 25), (10, 25), (10, 25), (10, 25), (10, 25), (10, 25), (10, 25), (10, 25), (10, 25), (11, 25), (6, 27), (10, 477), (10, 11), (10, 800), (10, 50), (10, 24), (10, 4), (10, 4), (10, 24), (10, 24), (10, 24), (10, 600), (10, 24), (10, 24), (10, 48), (10, 48), (12, 1), (13, 1)]
def z_kind (k : Nat) : Nat := (z_lay.getD k (99, 0)).1
def z_len (k : Nat) : Nat := (z_lay.getD k (99, 0)).2
/-- where the cells of an object's own final rows lie behind it -/
def z_off (ci j : Nat) : Option Nat := (([[some 1, some 2, none, none, none, some 3, some 29, some 30, some 31, some 32, some 33, some 34], [none, none, some 1, some 2, some 3, some 4, some 5], [none, none, some 1, some 2, some 3, none, some 4, some 5, some 6, some 7, some 8, some 9, some 10, some 11, some 12, some 13], [none, none, none, none, none, none, none, none, none, none], [none, some 1, some 2, some 3, some 4, some 5], [some 1, none, none, none, some 2, none, none, none, some 46, none, some 47, some 48, some 54, none, some 60, some 66, some 72], [none, some 1, some 2, some 3, none, none, none, none, none, none, none, some 4, none, some 5, none, none, some 6, some 7, some 8, some 9, some 10, some 11, none, some 12, some 13, some 14, some 15]] : List (List (Option Nat))).getD ci []).getD j none
def z_rv (r : Option Nat) : Value := match r with
  | some k => .ref k
  | none => .null
abbrev z_in (x : Int32) (n : Nat) : Prop := ¬ (x < 0 ∨ n ≤ x.toNatClampNeg)
/-- entry locals -/
def z_ent (n : Nat) (args : List Value) : zL := (args.flatMap fun v => if v.category = 2 then [some v, none] else [some v]) ++ List.replicate (n - (args.map fun v => v.category).sum) none
def z_sw {α : Type} (x : Int32) (sw : List (Int32 × Nat)) (d : Nat) (k : Nat → α) : α := match sw with
  | [] => k d
  | q :: r => if x = q.1 then k q.2 else z_sw x r d k
def z_hnd (e : Nat) (sw : List (Int32 × Nat)) : Option Int32 := match sw with
  | [] => none
  | q :: r => if q.1 = Int32.ofNat e then some (Int32.ofNat q.2) else z_hnd e r
def z_cmp (c : ClassFile.Cond) (x y : Int32) {α : Type} (t f : α) : α := match c with
  | .eq => if x = y then t else f
  | .ne => if x = y then f else t
  | .lt => if x < y then t else f
  | .ge => if x < y then f else t
  | .gt => if y < x then t else f
  | .le => if y < x then f else t
/-- how many locals a method has -/
def z_maxL : Nat → Nat := fun k => [1, 3, 2, 2, 2, 3, 3, 4, 4, 3, 5, 5, 4, 3, 6, 2, 1, 3, 2, 5, 3, 2, 6, 4, 3, 5, 7, 5, 9, 5, 6, 1, 1, 4, 2, 1, 1, 3, 3, 4, 4, 4, 3, 5, 4, 4, 5, 4, 6, 2, 4, 6, 4, 4, 4, 5, 4, 6, 6, 4, 5, 5, 11, 1, 6, 4, 5, 6, 4, 2, 2, 2, 2, 4, 5, 5, 4, 3, 4, 4, 4, 3, 4, 1, 3, 4, 1, 1, 7, 5, 2, 6, 4, 4, 3, 5, 3, 4, 4, 5, 4, 5, 1, 7, 5, 5, 2, 6, 7, 2, 5, 6, 3, 5, 4, 3, 4, 6, 4, 5, 3, 6, 5, 4, 4, 3, 4, 1, 4, 7, 3, 4, 3, 2, 3, 5, 4, 4, 6, 2, 2, 3, 3, 5, 4, 3, 5, 7, 6, 3, 4, 6, 1, 3, 2, 6, 7, 2, 2, 4, 2, 3, 2, 1, 1, 2, 4, 3, 7, 3, 3, 6, 3, 2, 4, 4, 5, 5, 6, 2, 5, 1, 1, 4, 5, 5, 6, 5, 2, 6, 6, 6, 4, 5, 2, 2, 2, 2, 2, 2, 4, 1, 3, 2, 1, 1, 2, 2, 2, 1, 1, 3, 2, 4, 4, 2, 2, 1, 2, 1, 2, 4, 3, 8, 4, 4, 5, 6, 6, 6, 5, 4, 6, 6, 6, 5, 6, 4, 4, 4, 4, 3, 5, 5, 4, 4, 4, 4, 9].getD k 0
def z_ld (l : zL) (i : Nat) : Option Value := match l[i]? with
  | some r => r
  | none => none
/-- storing v of one word -/
def z_st (l : zL) (i : Nat) (v : Value) : zL := l.set i (some v)
def z_add (t : Nat) (o : Option zOut) : Option zOut := match o with
  | none => none
  | some (r, σ, u) => some (r, σ, t + u)
/-- behind a call -/
def z_back (sw : List (Int32 × Nat)) (o : Option zOut) (k : Option Value → zSt → Option zOut) : Option zOut := match o with
  | none => none
  | some (.inl r, σ, t) => z_add t (k r σ)
  | some (.inr e, σ, t) => match sw with
    | [] => some (.inr e, σ, t)
    | _ :: _ => match z_hnd e sw with
      | none => none
      | some c => some (.inl (some (.int c)), σ, t)
/-- narrowing of a stored number: 2 a boolean -/
def z_nar (b : Nat) (x : Int32) (o : Option zOut) : Option zOut := match b with
  | 0 => o
  | _ => if x = 0 ∨ x = 1 then o else none
section
variable (L : Nat) (xs : Nat → Int32) (len : Nat) (a : Nat × Nat × Nat) (v : Value) (sw : List (Int32 × Nat)) (pc : Nat) (l : zL) (st : List Value) (σ : zSt) (k : Nat → zL → List Value → zSt → Option zOut) (cl : Nat → zL → zSt → Option zOut)
/-- natives and the JDK's own -/
def z_nat : Option zOut := match a.1, st with
  | 1000, .int y :: .int x :: r => k (pc + len) l (.int (if x < y then y else x) :: r) σ
  | 1001, .int y :: .int x :: r => k (pc + len) l (.int (if y < x then y else x) :: r) σ
  | 1002, .int n :: .int dp :: .ref q1 :: .int sp :: .ref q0 :: r =>
    if z_kind q0 = 10 then if z_kind q1 = 10 then if q0 = q1 then none else if sp < 0 then none else if dp < 0 then none else if n < 0 then none else if sp.toNatClampNeg + n.toNatClampNeg ≤ z_len q0 then if dp.toNatClampNeg + n.toNatClampNeg ≤ z_len q1 then
      k (pc + len) l r (σ.1, σ.2.1, (fun c j => if c = q1 then (if dp.toNatClampNeg ≤ j ∧ j < dp.toNatClampNeg + n.toNatClampNeg then σ.2.2.1 q0 (sp.toNatClampNeg + (j - dp.toNatClampNeg)) else σ.2.2.1 q1 j) else σ.2.2.1 c j), σ.2.2.2)
    else none else none else none else none
  | 1003, .ref q :: r => if 200 ≤ q then if q < 205 then k (pc + len) l (.int (Int32.ofNat ((z_txt q).length)) :: r) σ else none else none
  | 1004, .int i :: .ref q :: r => if 200 ≤ q then if q < 205 then if z_in i (z_txt q).length then k (pc + len) l (.int ((z_txt q).getD i.toNatClampNeg 0) :: r) σ else none else none else none
  | _, _ => none
def z_call : Option zOut := if a.2.1 ≤ st.length then if ((st.drop a.2.1).map fun v => v.category).sum ≤ 8 then if 1000 ≤ a.1 then z_nat len a pc l st σ k else if (((st.take a.2.1).reverse).map fun v => v.category).sum ≤ z_maxL a.1 then
  z_back sw (cl a.1 (z_ent (z_maxL a.1) (st.take a.2.1).reverse) σ) (fun r σ' => k (pc + len) l (r.toList ++ st.drop a.2.1) σ') else none else none else none
def z_gt : Option zOut := match st with
  | .ref q :: r => if z_kind q = a.1 then (match a.2.2 with
    | 0 => k (pc + len) l (.int (σ.1 q a.2.1) :: r) σ
    | 1 => k (pc + len) l (z_rv (σ.2.1 q a.2.1) :: r) σ
    | 2 => k (pc + len) l (.int (σ.1 q a.2.1) :: r) σ
    | n => k (pc + len) l (.ref (q + (n - 10)) :: r) σ) else none
  | _ => none
def z_pt : Option zOut := match a.2.2, st with
  | 1, .ref x :: .ref q :: r => if z_kind q = a.1 then k (pc + len) l r (σ.1, z_up σ.2.1 q a.2.1 (some x), σ.2.2) else none
  | 1, _ => none
  | b, .int x :: .ref q :: r => if z_kind q = a.1 then z_nar b x (k (pc + len) l r (z_up σ.1 q a.2.1 x, σ.2)) else none
  | _, _ => none
/-- array loads of ints and booleans; a.1 = 1: the script's own -/
def z_ald (kd : Nat) : Option zOut := match st with
  | .int i :: .ref q :: r => (match a.1 with
    | 1 => if q = 300 then if kd = 10 then if z_in i L then k (pc + len) l (.int (xs i.toNatClampNeg) :: r) σ else none else none else none
    | _ => if z_kind q = kd then if z_in i (z_len q) then k (pc + len) l (.int (σ.2.2.1 q i.toNatClampNeg) :: r) σ else none else none)
  | _ => none
def z_ast (kd : Nat) : Option zOut := match st with
  | .int x :: .int i :: .ref q :: r => if z_kind q = kd then if z_in i (z_len q) then z_nar (kd - 10) x (k (pc + len) l r (σ.1, σ.2.1, z_up σ.2.2.1 q i.toNatClampNeg x, σ.2.2.2)) else none else none
  | _ => none
def z_bin (op : Nat) : Option zOut := match st with
  | .int y :: .int x :: r => (match op with
    | 0 => k (pc + len) l (.int (x + y) :: r) σ
    | 1 => k (pc + len) l (.int (x - y) :: r) σ
    | 2 => k (pc + len) l (.int (x * y) :: r) σ
    | 3 => if y = 0 then none else k (pc + len) l (.int (x / y) :: r) σ
    | 4 => if y = 0 then none else k (pc + len) l (.int (x - x / y * y) :: r) σ
    | 5 => k (pc + len) l (.int (x &&& y) :: r) σ
    | 6 => k (pc + len) l (.int (x ||| y) :: r) σ
    | 7 => k (pc + len) l (.int (x >>> (y &&& 31)) :: r) σ
    | _ => k (pc + len) l (.int (x.toUInt32 >>> (y.toUInt32 &&& Int32.toUInt32 31)).toInt32 :: r) σ)
  | _ => none
def z_ret (b : Nat) : Option zOut := match b, st with
  | 0, [] => some (.inl none, σ, 0)
  | 1, [.int x] => z_nar a.1 x (some (.inl (some (.int x)), σ, 0))
  | 2, [.ref q] => some (.inl (some (.ref q)), σ, 0)
  | 3, [.double x] => some (.inl (some (.double x)), σ, 0)
  | 4, [.long x] => some (.inl (some (.long x)), σ, 0)
  | _, _ => none
def z_lod (i kd : Nat) : Option zOut := match z_ld l i, kd with
  | some (.int x), 0 => k (pc + len) l (.int x :: st) σ
  | some (.ref x), 1 => k (pc + len) l (.ref x :: st) σ
  | some (.long x), 2 => k (pc + len) l (.long x :: st) σ
  | some (.double x), 3 => k (pc + len) l (.double x :: st) σ
  | _, _ => none
/-- the words before i that a store at i would break -/
def z_ok (i : Nat) : Bool := match i with
  | 0 => true
  | j + 1 => match z_ld l j with
    | some (.long _) => false
    | some (.double _) => false
    | _ => true
def z_sto (i kd : Nat) : Option zOut := match z_ok l i, st, kd with
  | true, .int x :: r, 0 => if i < l.length then k (pc + len) (l.set i (some (.int x))) r σ else none
  | true, .ref x :: r, 1 => if i < l.length then k (pc + len) (l.set i (some (.ref x))) r σ else none
  | true, .long x :: r, 2 => if i + 1 < l.length then k (pc + len) ((l.set i (some (.long x))).set (i + 1) none) r σ else none
  | true, .double x :: r, 3 => if i + 1 < l.length then k (pc + len) ((l.set i (some (.double x))).set (i + 1) none) r σ else none
  | _, _, _ => none
def z_stp (i : Instr) : Option zOut := match i with
  | .iload_n n => z_lod len pc l st σ k n 0
  | .iload n => z_lod len pc l st σ k n 0
  | .aload_n n => z_lod len pc l st σ k n 1
  | .aload n => z_lod len pc l st σ k n 1
  | .lload_n n => z_lod len pc l st σ k n 2
  | .lload n => z_lod len pc l st σ k n 2
  | .dload_n n => z_lod len pc l st σ k n 3
  | .dload n => z_lod len pc l st σ k n 3
  | .istore_n n => z_sto len pc l st σ k n 0
  | .istore n => z_sto len pc l st σ k n 0
  | .astore_n n => z_sto len pc l st σ k n 1
  | .astore n => z_sto len pc l st σ k n 1
  | .lstore_n n => z_sto len pc l st σ k n 2
  | .lstore n => z_sto len pc l st σ k n 2
  | .dstore_n n => z_sto len pc l st σ k n 3
  | .dstore n => z_sto len pc l st σ k n 3
  | .iconst n => k (pc + len) l (.int (Int32.ofInt n) :: st) σ
  | .bipush n => k (pc + len) l (.int (Int32.ofInt n) :: st) σ
  | .sipush n => k (pc + len) l (.int (Int32.ofInt n) :: st) σ
  | .lconst n => k (pc + len) l (.long (Int64.ofNat n) :: st) σ
  | .dconst _ => k (pc + len) l (.double 0 :: st) σ
  | .ldc _ => k (pc + len) l (v :: st) σ
  | .ldc_w _ => k (pc + len) l (v :: st) σ
  | .ldc2_w _ => k (pc + len) l (v :: st) σ
  | .iadd => z_bin len pc l st σ k 0
  | .isub => z_bin len pc l st σ k 1
  | .imul => z_bin len pc l st σ k 2
  | .idiv => z_bin len pc l st σ k 3
  | .irem => z_bin len pc l st σ k 4
  | .iand => z_bin len pc l st σ k 5
  | .ior => z_bin len pc l st σ k 6
  | .ishr => z_bin len pc l st σ k 7
  | .iushr => z_bin len pc l st σ k 8
  | .ladd => match st with
    | .long y :: .long x :: r => k (pc + len) l (.long (x + y) :: r) σ
    | _ => none
  | .lsub => match st with
    | .long y :: .long x :: r => k (pc + len) l (.long (x - y) :: r) σ
    | _ => none
  | .lmul => match st with
    | .long y :: .long x :: r => k (pc + len) l (.long (x * y) :: r) σ
    | _ => none
  | .i2l => match st with
    | .int x :: r => k (pc + len) l (.long x.toInt64 :: r) σ
    | _ => none
  | .l2i => match st with
    | .long x :: r => k (pc + len) l (.int x.toInt32 :: r) σ
    | _ => none
  | .i2d => match st with
    | .int x :: r => k (pc + len) l (.double (FP.i2d x) :: r) σ
    | _ => none
  | .ddiv => match st with
    | .double y :: .double x :: r => if FP.ddiv x y &&& 0x7fffffffffffffff ≤ 0x7ff0000000000000 then k (pc + len) l (.double (FP.ddiv x y) :: r) σ else none
    | _ => none
  | .dmul => match st with
    | .double y :: .double x :: r => if FP.dmul x y &&& 0x7fffffffffffffff ≤ 0x7ff0000000000000 then k (pc + len) l (.double (FP.dmul x y) :: r) σ else none
    | _ => none
  | .dcmp c => match st with
    | .double y :: .double x :: r => k (pc + len) l (.int (Op.cmpValue (FP.dcmp x y) c) :: r) σ
    | _ => none
  | .lcmp => match st with
    | .long y :: .long x :: r => k (pc + len) l (.int (lg_cmp x y) :: r) σ
    | _ => none
  | .dup => match st with
    | x :: r => if x.category = 1 then k (pc + len) l (x :: x :: r) σ else none
    | _ => none
  | .dup2 => match st with
    | x :: y :: r => if x.category = 1 then if y.category = 1 then k (pc + len) l (x :: y :: x :: y :: r) σ else none else none
    | _ => none
  | .iinc i d => match z_ld l i with
    | some (.int x) => k (pc + len) (l.set i (some (.int (x + Int32.ofInt d)))) st σ
    | _ => none
  | .goto _ => k a.1 l st σ
  | .ifCond c _ => match st with
    | .int x :: r => z_cmp c x 0 (k a.1 l r σ) (k (pc + len) l r σ)
    | _ => none
  | .if_icmp c _ => match st with
    | .int y :: .int x :: r => z_cmp c x y (k a.1 l r σ) (k (pc + len) l r σ)
    | _ => none
  | .tableswitch _ _ _ _ => match st with
    | .int x :: r => z_sw x sw a.1 (fun t => k t l r σ)
    | _ => none
  | .lookupswitch _ _ => match st with
    | .int x :: r => z_sw x sw a.1 (fun t => k t l r σ)
    | _ => none
  | .getfield _ => z_gt len a pc l st σ k
  | .putfield _ => z_pt len a pc l st σ k
  | .iaload => z_ald L xs len a pc l st σ k 10
  | .baload => z_ald L xs len a pc l st σ k 11
  | .iastore => z_ast len pc l st σ k 10
  | .bastore => z_ast len pc l st σ k 11
  | .laload => match st with
    | .int i :: .ref q :: r => if z_kind q = 12 then if i = 0 then k (pc + len) l (.long σ.2.2.2.1 :: r) σ else none else none
    | _ => none
  | .lastore => match st with
    | .long x :: .int i :: .ref q :: r => if z_kind q = 12 then if i = 0 then k (pc + len) l r (σ.1, σ.2.1, σ.2.2.1, x, σ.2.2.2.2) else none else none
    | _ => none
  | .daload => match st with
    | .int i :: .ref q :: r => if z_kind q = 13 then if i = 0 then k (pc + len) l (.double σ.2.2.2.2 :: r) σ else none else none
    | _ => none
  | .dastore => match st with
    | .double x :: .int i :: .ref q :: r => if z_kind q = 13 then if i = 0 then k (pc + len) l r (σ.1, σ.2.1, σ.2.2.1, σ.2.2.2.1, x) else none else none
    | _ => none
  | .aaload => match st with
    | .int i :: .ref q :: r => if z_kind q = 14 then if z_in i (z_len q) then k (pc + len) l (.ref (q + (1 + i.toNatClampNeg)) :: r) σ else none else none
    | _ => none
  | .arraylength => match st with
    | .ref q :: r => (match a.1 with
      | 1 => if q = 300 then k (pc + len) l (.int (Int32.ofNat L) :: r) σ else none
      | _ => if z_kind q = 10 then k (pc + len) l (.int (Int32.ofNat (z_len q)) :: r) σ else none)
    | _ => none
  | .invokevirtual _ => match (st.take a.2.1).reverse with
    | .ref q :: _ => if 1000 ≤ a.1 then z_call len a sw pc l st σ k cl else if z_kind q = a.2.2 then z_call len a sw pc l st σ k cl else none
    | _ => none
  | .invokestatic _ => z_call len a sw pc l st σ k cl
  | .ireturn => z_ret a st σ 1
  | .return_ => z_ret a st σ 0
  | .areturn => z_ret a st σ 2
  | .dreturn => z_ret a st σ 3
  | .lreturn => z_ret a st σ 4
  | .new _ => match st with
    | [] => some (.inr a.1, σ, 1)
    | _ => none
  | _ => none
end
def z_at (m pc : Nat) : Option zI := ((z_tab m).getD (pc / 16) []).getD (pc % 16) none
noncomputable def z_run (L : Nat) (xs : Nat → Int32) (n : Nat) : Nat → Nat → zL → List Value → zSt → Option zOut :=
  Nat.rec (motive := fun _ => Nat → Nat → zL → List Value → zSt → Option zOut) (fun _ _ _ _ _ => none)
    (fun _ ih m pc l st σ => match z_at m pc with
      | none => none
      | some e => z_stp L xs e.2.1 e.2.2.1 e.2.2.2.1 e.2.2.2.2 pc l st σ (ih m) (fun c args τ => ih c 0 args [] τ) e.1) n

