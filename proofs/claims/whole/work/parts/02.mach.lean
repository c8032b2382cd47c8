/-! THE SMALL MACHINE: a pure evaluator of the program's bytecode over the program's own tables; its soundness stands in part 03. Values: int, long; ref k: the k-th cell made; float k: String constant k; double 0: KIND_ABOVE, double (1+k): the bytes of String constant k, double 50: the script; retAddr 0: SIOOBE_FORMATTER. -/
def zC (ci : Nat) : String := zCl.getD ci ""
def zT (ci k : Nat) : String × String × String × Bool := (zTl.getD ci []).getD k ("", "", "", false)
def zN (ci : Nat) : Nat := (zTl.getD ci []).length
def zty (ci k : Nat) : FieldType := (zYl.getD ci []).getD k .int
/-- how many cells, how many slots; shapes; lengths; references -/
abbrev zF : Type := Nat × Nat × (Nat → Nat) × (Nat → Nat) × (Nat → Nat → Option Nat)
/-- ints, longs -/
abbrev zG : Type := (Nat → Nat → Int32) × (Nat → Nat → Int64)
abbrev zLs : Type := List (Option Value)
abbrev zCf : Type := Nat × zLs × List Value × zF × zG
/-- the script -/
abbrev zXs : Type := Nat × (Nat → Int32)
def zsh (F : zF) (a : Nat) : Nat := if a < F.1 then F.2.2.1 a else 999
def zln (F : zF) (a : Nat) : Nat := F.2.2.2.1 a
def zrf (F : zF) (a k : Nat) : Option Nat := F.2.2.2.2 a k
def zu {α : Type} (V : Nat → Nat → α) (a k : Nat) (v : α) : Nat → Nat → α := fun b => if b = a then (fun j => if j = k then v else V b j) else V b
def zur {α : Type} (V : Nat → α) (a : Nat) (f : α) : Nat → α := fun b => if b = a then f else V b
def zob {α β : Type} (o : Option α) (f : α → Option β) : Option β := match o with
  | none => none
  | some a => f a
def zm (M : Nat) : Option zE := zml[M]?
def zop (M pc : Nat) : Option (Instr × Nat) := match zm M with
  | none => none
  | some mi => match decode mi.2.2.1 pc with
    | .ok q => some q
    | .error _ => none
def zfld (own idx : Nat) : Option (Nat × Nat × Nat × Nat × Nat) := zfl.find? fun q => q.1 == own && q.2.1 == idx
def zjfd (own idx : Nat) : Option (Nat × Nat × Nat × Nat) := zjfl.find? fun q => q.1 == own && q.2.1 == idx
def zsfd (own idx : Nat) : Option (Nat × Nat × Nat × Nat) := zsfl.find? fun q => q.1 == own && q.2.1 == idx
def zcal (own idx : Nat) : Option (Nat × Nat × Nat × Bool × Nat) := zcl.find? fun q => q.1 == own && q.2.1 == idx
def zoil (own idx : Nat) : Option (Nat × Nat × Nat) := zol.find? fun q => q.1 == own && q.2.1 == idx
def zacl (own idx : Nat) : Option (Nat × Nat × Nat) := zal.find? fun q => q.1 == own && q.2.1 == idx
def zmxl (own idx : Nat) : Option (Nat × Nat × Nat × Nat) := zxl.find? fun q => q.1 == own && q.2.1 == idx
def zkln (own idx : Nat) : Option (Nat × Nat × Nat × Nat) := zkl.find? fun q => q.1 == own && q.2.1 == idx
def znum (own idx : Nat) : Option (Nat × Nat × Int32 × Nat) := znl.find? fun q => q.1 == own && q.2.1 == idx
def zlng (own idx : Nat) : Option (Nat × Nat × Int64 × Nat) := zjl.find? fun q => q.1 == own && q.2.1 == idx
def zstr (own idx : Nat) : Option Nat := zsl.findIdx? fun q => q.1 == own && q.2.1 == idx
/-- arrays that the program doesn't make: of ints (true) or bytes, how long, what -/
def zxt (x : zXs) (k : Nat) : Option (Bool × Nat × (Nat → Int32)) := if k = 0 then some (true, 6, fun j => ([-1, 0, 0, 1, 2, 0] : List Int32).getD j 0) else if k = 50 then (if x.1 ≤ 3072 then some (true, x.1, x.2) else none) else match zbl[k - 1]? with
  | some l => some (false, l.length, fun j => l.getD j 0)
  | none => none
def zisr : Value → Bool
  | .ref _ => true
  | .float _ => true
  | .double _ => true
  | _ => false
def zcat : Value → Nat
  | .long _ => 2
  | _ => 1
def zgt (ls : zLs) (i : Nat) : Option Value := match ls[i]? with
  | some o => o
  | none => none
def zpj (pc : Nat) (off : Int) : Option Nat := if 0 ≤ (pc : Int) + off then some ((pc : Int) + off).toNat else none
def zld (i : Nat) (ok : Value → Bool) (n : Nat) (ls : zLs) (st : List Value) (F : zF) (G : zG) : Option zCf := match zgt ls i with
  | some v => if ok v = true then some (n, ls, v :: st, F, G) else none
  | none => none
def zki : Value → Bool
  | .int _ => true
  | _ => false
def zkl2 : Value → Bool
  | .long _ => true
  | _ => false
/-- storing one slot; the places that hold longs are told ahead -/
def zst1 (i : Nat) (ok : Value → Bool) (LS : List Nat) (n : Nat) (ls : zLs) (st : List Value) (F : zF) (G : zG) : Option zCf := match st with
  | v :: rest => if ok v = true ∧ i < ls.length ∧ (∀ j ∈ LS, j + 1 ≠ i ∧ j ≠ i) then some (n, ls.set i (some v), rest, F, G) else none
  | [] => none
def zst2 (i : Nat) (LS : List Nat) (n : Nat) (ls : zLs) (st : List Value) (F : zF) (G : zG) : Option zCf := match st with
  | .long v :: rest => if i + 1 < ls.length ∧ i ∈ LS ∧ (∀ j ∈ LS, j + 1 ≠ i ∧ j ≠ i + 1) then some (n, (ls.set i (some (.long v))).set (i + 1) none, rest, F, G) else none
  | _ => none
def zint (n : Nat) (v : Int32) (ls : zLs) (st : List Value) (F : zF) (G : zG) : Option zCf := some (n, ls, .int v :: st, F, G)
def zbin (f : Int32 → Int32 → Option Int32) (n : Nat) (ls : zLs) (st : List Value) (F : zF) (G : zG) : Option zCf := match st with
  | .int y :: .int x :: rest => match f x y with
    | some v => some (n, ls, .int v :: rest, F, G)
    | none => none
  | _ => none
def zbin2 (f : Int64 → Int64 → Option Int64) (n : Nat) (ls : zLs) (st : List Value) (F : zF) (G : zG) : Option zCf := match st with
  | .long y :: .long x :: rest => match f x y with
    | some v => some (n, ls, .long v :: rest, F, G)
    | none => none
  | _ => none
def zun (f : Int32 → Value) (n : Nat) (ls : zLs) (st : List Value) (F : zF) (G : zG) : Option zCf := match st with
  | .int x :: rest => some (n, ls, f x :: rest, F, G)
  | _ => none
def zc0 (c : ClassFile.Cond) (x y : Int32) : Bool := match c with
  | .eq => decide (x = y)
  | .ne => !decide (x = y)
  | .lt => decide (x < y)
  | .ge => decide (y ≤ x)
  | .gt => decide (y < x)
  | .le => decide (x ≤ y)
def zbr (t : Bool) (pc : Nat) (off : Int) (ls : zLs) (st : List Value) (F : zF) (G : zG) : Option zCf := match zpj pc off with
  | some tg => if t = true then some (tg, ls, st, F, G) else some (pc + 3, ls, st, F, G)
  | none => none
def zix (i : Int32) (n : Nat) : Bool := decide (¬ (i < 0 ∨ n ≤ i.toNatClampNeg))
def zgf (ci k : Nat) (n : Nat) (ls : zLs) (st : List Value) (F : zF) (G : zG) : Option zCf := match st with
  | .ref a :: rest => if zsh F a = ci ∧ k < zN ci ∧ ci < 9 then match zty ci k with
    | .int => some (n, ls, .int (G.1 a k) :: rest, F, G)
    | .boolean => some (n, ls, .int (G.1 a k) :: rest, F, G)
    | .long => some (n, ls, .long (G.2 a k) :: rest, F, G)
    | .object _ => match zrf F a k with
      | some b => some (n, ls, .ref b :: rest, F, G)
      | none => none
    | .array _ => match zrf F a k with
      | some b => some (n, ls, .ref b :: rest, F, G)
      | none => none
    | _ => none else none
  | _ => none
def zgj (k : Nat) (n : Nat) (ls : zLs) (st : List Value) (F : zF) (G : zG) : Option zCf := match st with
  | .float s :: rest => if s.toNat < 12 then if k = 0 then some (n, ls, .double (UInt64.ofNat (1 + s.toNat)) :: rest, F, G) else some (n, ls, .int 0 :: rest, F, G) else none
  | _ => none
def zputr (F : zF) (a k b : Nat) : zF := (F.1, F.2.1, F.2.2.1, F.2.2.2.1, zu F.2.2.2.2 a k (some b))
def zpf (own ci k : Nat) (isI : Bool) (n : Nat) (ls : zLs) (st : List Value) (F : zF) (G : zG) : Option zCf := match st with
  | .int v :: .ref a :: rest => if zsh F a = ci ∧ k < zN ci ∧ ci < 9 ∧ (zT ci k).2.2.2 = false then match zty ci k with
    | .int => some (n, ls, rest, F, (zu G.1 a k v, G.2))
    | .boolean => if narrow .boolean (.int v) = .int v then some (n, ls, rest, F, (zu G.1 a k v, G.2)) else none
    | _ => none else none
  | .long v :: .ref a :: rest => if zsh F a = ci ∧ k < zN ci ∧ ci < 9 ∧ (zT ci k).2.2.2 = false then match zty ci k with
    | .long => some (n, ls, rest, F, (G.1, zu G.2 a k v))
    | _ => none else none
  | .ref b :: .ref a :: rest => if zsh F a = ci ∧ k < zN ci ∧ ci < 9 ∧ (zT ci k).2.2.2 = true ∧ isI = true ∧ own = ci then match zty ci k with
    | .object _ => some (n, ls, rest, zputr F a k b, G)
    | .array _ => some (n, ls, rest, zputr F a k b, G)
    | _ => none else none
  | _ => none
def znewF (F : zF) (sh len : Nat) : zF := (F.1 + 1, F.2.1 + len, zur F.2.2.1 F.1 sh, zur F.2.2.2.1 F.1 len, zur F.2.2.2.2 F.1 (fun _ => none))
def znewG (F : zF) (G : zG) : zG := (zur G.1 F.1 (fun _ => 0), zur G.2 F.1 (fun _ => 0))
def zcpy (V : Nat → Nat → Int32) (a b sp dp n : Nat) : Nat → Nat → Int32 := zur V b (va_cpy (V a) (V b) sp dp n)
def zacp (F : zF) (G : zG) (st : List Value) : Option (List Value × zG) := match st with
  | .int n :: .int dp :: .ref b :: .int sp :: .ref a :: rest => if zsh F a = 100 ∧ zsh F b = 100 ∧ ¬ sp < 0 ∧ ¬ dp < 0 ∧ ¬ n < 0 ∧ sp.toNatClampNeg + n.toNatClampNeg ≤ zln F a ∧ dp.toNatClampNeg + n.toNatClampNeg ≤ zln F b ∧ (rest.map zcat).sum ≤ 8 then some (rest, (zcpy G.1 a b sp.toNatClampNeg dp.toNatClampNeg n.toNatClampNeg, G.2)) else none
  | _ => none
def zoi (F : zF) (st : List Value) : Option (List Value) := match st with
  | .ref a :: rest => if zsh F a < 9 ∧ (rest.map zcat).sum ≤ 8 then some rest else none
  | _ => none
/-- what goes on in the same frame -/
def zsi (x : zXs) (own : Nat) (LS : List Nat) (isI : Bool) (op : Instr) (len pc : Nat) (ls : zLs) (st : List Value) (F : zF) (G : zG) : Option zCf := match op with
  | .iconst n => if len = 1 then zint (pc + 1) (Int32.ofInt n) ls st F G else none
  | .bipush n => if len = 2 then zint (pc + 2) (Int8.ofInt n).toInt32 ls st F G else none
  | .sipush n => if len = 3 then zint (pc + 3) (Int16.ofInt n).toInt32 ls st F G else none
  | .lconst n => if len = 1 then some (pc + 1, ls, .long (Int64.ofNat (n : Nat)) :: st, F, G) else none
  | .ldc idx => if len = 2 then match znum own idx with
    | some q => zint (pc + 2) q.2.2.1 ls st F G
    | none => match zstr own idx with
      | some k => some (pc + 2, ls, .float (UInt32.ofNat k) :: st, F, G)
      | none => none else none
  | .ldc_w idx => if len = 3 then match znum own idx with
    | some q => zint (pc + 3) q.2.2.1 ls st F G
    | none => none else none
  | .ldc2_w idx => if len = 3 then match zlng own idx with
    | some q => some (pc + 3, ls, .long q.2.2.1 :: st, F, G)
    | none => none else none
  | .iload_n k => if len = 1 then zld (k : Nat) zki (pc + 1) ls st F G else none
  | .iload i => if len = 2 then zld i zki (pc + 2) ls st F G else none
  | .lload_n k => if len = 1 then zld (k : Nat) zkl2 (pc + 1) ls st F G else none
  | .lload i => if len = 2 then zld i zkl2 (pc + 2) ls st F G else none
  | .aload_n k => if len = 1 then zld (k : Nat) zisr (pc + 1) ls st F G else none
  | .aload i => if len = 2 then zld i zisr (pc + 2) ls st F G else none
  | .istore_n k => if len = 1 then zst1 (k : Nat) zki LS (pc + 1) ls st F G else none
  | .istore i => if len = 2 then zst1 i zki LS (pc + 2) ls st F G else none
  | .astore_n k => if len = 1 then zst1 (k : Nat) zisr LS (pc + 1) ls st F G else none
  | .astore i => if len = 2 then zst1 i zisr LS (pc + 2) ls st F G else none
  | .lstore_n k => if len = 1 then zst2 (k : Nat) LS (pc + 1) ls st F G else none
  | .lstore i => if len = 2 then zst2 i LS (pc + 2) ls st F G else none
  | .iinc i n => if len = 3 then match zgt ls i with
    | some (.int v) => if i < ls.length ∧ (∀ j ∈ LS, j + 1 ≠ i ∧ j ≠ i) then some (pc + 3, ls.set i (some (.int (v + Int32.ofInt n))), st, F, G) else none
    | _ => none else none
  | .iadd => if len = 1 then zbin (fun x y => some (x + y)) (pc + 1) ls st F G else none
  | .isub => if len = 1 then zbin (fun x y => some (x - y)) (pc + 1) ls st F G else none
  | .imul => if len = 1 then zbin (fun x y => some (x * y)) (pc + 1) ls st F G else none
  | .iand => if len = 1 then zbin (fun x y => some (x &&& y)) (pc + 1) ls st F G else none
  | .ior => if len = 1 then zbin (fun x y => some (x ||| y)) (pc + 1) ls st F G else none
  | .ixor => if len = 1 then zbin (fun x y => some (x ^^^ y)) (pc + 1) ls st F G else none
  | .ishl => if len = 1 then zbin (fun x y => some (x <<< (y &&& 31))) (pc + 1) ls st F G else none
  | .ishr => if len = 1 then zbin (fun x y => some (x >>> (y &&& 31))) (pc + 1) ls st F G else none
  | .iushr => if len = 1 then zbin (fun x y => some (x.toUInt32 >>> (y.toUInt32 &&& Int32.toUInt32 31)).toInt32) (pc + 1) ls st F G else none
  | .idiv => if len = 1 then zbin (fun x y => if y = 0 then none else some (x / y)) (pc + 1) ls st F G else none
  | .irem => if len = 1 then zbin (fun x y => if y = 0 then none else some (x - x / y * y)) (pc + 1) ls st F G else none
  | .ineg => if len = 1 then zun (fun x => .int (-x)) (pc + 1) ls st F G else none
  | .i2l => if len = 1 then zun (fun x => .long x.toInt64) (pc + 1) ls st F G else none
  | .i2b => if len = 1 then zun (fun x => .int x.toInt8.toInt32) (pc + 1) ls st F G else none
  | .i2s => if len = 1 then zun (fun x => .int x.toInt16.toInt32) (pc + 1) ls st F G else none
  | .i2c => if len = 1 then zun (fun x => .int (x.toUInt32 % 65536).toInt32) (pc + 1) ls st F G else none
  | .l2i => if len = 1 then match st with
    | .long v :: rest => some (pc + 1, ls, .int v.toInt32 :: rest, F, G)
    | _ => none else none
  | .ladd => if len = 1 then zbin2 (fun x y => some (x + y)) (pc + 1) ls st F G else none
  | .lsub => if len = 1 then zbin2 (fun x y => some (x - y)) (pc + 1) ls st F G else none
  | .lmul => if len = 1 then zbin2 (fun x y => some (x * y)) (pc + 1) ls st F G else none
  | .ldiv => if len = 1 then zbin2 (fun x y => if y = 0 then none else some (x / y)) (pc + 1) ls st F G else none
  | .lrem => if len = 1 then zbin2 (fun x y => if y = 0 then none else some (x - x / y * y)) (pc + 1) ls st F G else none
  | .lcmp => if len = 1 then match st with
    | .long y :: .long v :: rest => some (pc + 1, ls, .int (lg_cmp v y) :: rest, F, G)
    | _ => none else none
  | .dup => if len = 1 then match st with
    | v :: rest => if zcat v = 1 then some (pc + 1, ls, v :: v :: rest, F, G) else none
    | _ => none else none
  | .pop => if len = 1 then match st with
    | v :: rest => if zcat v = 1 then some (pc + 1, ls, rest, F, G) else none
    | _ => none else none
  | .dup2 => if len = 1 then match st with
    | v :: w :: rest => if zcat v = 1 ∧ zcat w = 1 then some (pc + 1, ls, v :: w :: v :: w :: rest, F, G) else none
    | _ => none else none
  | .ifCond c off => if len = 3 then match st with
    | .int v :: rest => zbr (zc0 c v 0) pc off ls rest F G
    | _ => none else none
  | .if_icmp c off => if len = 3 then match st with
    | .int y :: .int v :: rest => zbr (zc0 c v y) pc off ls rest F G
    | _ => none else none
  | .goto off => if len = 3 then match zpj pc off with
    | some tg => some (tg, ls, st, F, G)
    | none => none else none
  | .tableswitch d lo hi offs => match st with
    | .int v :: rest => if v.toInt < lo ∨ hi < v.toInt then match zpj pc d with
        | some tg => some (tg, ls, rest, F, G)
        | none => none
      else match offs[(v.toInt - lo).toNat]? with
        | some off => match zpj pc off with
          | some tg => some (tg, ls, rest, F, G)
          | none => none
        | none => none
    | _ => none
  | .lookupswitch d ps => match st with
    | .int v :: rest => if (ps.toList.zip (ps.toList.drop 1)).all (fun (a, next) => a.1 < next.1) = true then match zpj pc (Op.lookupswitch.offset ps.toList d v.toInt) with
        | some tg => some (tg, ls, rest, F, G)
        | none => none else none
    | _ => none
  | .getfield idx => if len = 3 then match zfld own idx with
    | some q => zgf q.2.2.1 q.2.2.2.1 (pc + 3) ls st F G
    | none => match zjfd own idx with
      | some q => zgj q.2.2.1 (pc + 3) ls st F G
      | none => none else none
  | .putfield idx => if len = 3 then match zfld own idx with
    | some q => zpf own q.2.2.1 q.2.2.2.1 isI (pc + 3) ls st F G
    | none => none else none
  | .getstatic idx => if len = 3 then match zsfd own idx with
    | some q => some (pc + 3, ls, (if q.2.2.1 = 0 then .int 1 else if q.2.2.1 = 1 then .double 0 else .retAddr 0) :: st, F, G)
    | none => none else none
  | .arraylength => if len = 1 then match st with
    | .ref a :: rest => if 100 ≤ zsh F a ∧ zsh F a < 104 then some (pc + 1, ls, .int (Int32.ofNat (zln F a)) :: rest, F, G) else none
    | .double k :: rest => match zxt x k.toNat with
      | some q => some (pc + 1, ls, .int (Int32.ofNat q.2.1) :: rest, F, G)
      | none => none
    | _ => none else none
  | .iaload => if len = 1 then match st with
    | .int i :: .ref a :: rest => if zsh F a = 100 ∧ zix i (zln F a) = true then some (pc + 1, ls, .int (G.1 a i.toNatClampNeg) :: rest, F, G) else none
    | .int i :: .double k :: rest => match zxt x k.toNat with
      | some q => if q.1 = true ∧ zix i q.2.1 = true then some (pc + 1, ls, .int (q.2.2 i.toNatClampNeg) :: rest, F, G) else none
      | none => none
    | _ => none else none
  | .baload => if len = 1 then match st with
    | .int i :: .ref a :: rest => if zsh F a = 101 ∧ zix i (zln F a) = true then some (pc + 1, ls, .int (G.1 a i.toNatClampNeg) :: rest, F, G) else none
    | .int i :: .double k :: rest => match zxt x k.toNat with
      | some q => if q.1 = false ∧ zix i q.2.1 = true then some (pc + 1, ls, .int (q.2.2 i.toNatClampNeg) :: rest, F, G) else none
      | none => none
    | _ => none else none
  | .aaload => if len = 1 then match st with
    | .int i :: .ref a :: rest => if (zsh F a = 102 ∨ zsh F a = 103) ∧ zix i (zln F a) = true then match zrf F a i.toNatClampNeg with
      | some b => some (pc + 1, ls, .ref b :: rest, F, G)
      | none => none else none
    | _ => none else none
  | .iastore => if len = 1 then match st with
    | .int v :: .int i :: .ref a :: rest => if zsh F a = 100 ∧ zix i (zln F a) = true then some (pc + 1, ls, rest, F, (zu G.1 a i.toNatClampNeg v, G.2)) else none
    | _ => none else none
  | .bastore => if len = 1 then match st with
    | .int v :: .int i :: .ref a :: rest => if zsh F a = 101 ∧ zix i (zln F a) = true then some (pc + 1, ls, rest, F, (zu G.1 a i.toNatClampNeg (vp_nar .boolean v), G.2)) else none
    | _ => none else none
  | .aastore => if len = 1 then match st with
    | .ref b :: .int i :: .ref a :: rest => if ((zsh F a = 102 ∧ zsh F b = 6) ∨ (zsh F a = 103 ∧ zsh F b = 3)) ∧ zix i (zln F a) = true then some (pc + 1, ls, rest, zputr F a i.toNatClampNeg b, G) else none
    | _ => none else none
  | .newarray t => if len = 2 then match st with
    | .int v :: rest => if ¬ v < 0 ∧ v.toNatClampNeg ≤ 100000 ∧ (t = .int ∨ t = .boolean) then some (pc + 2, ls, .ref F.1 :: rest, znewF F (if t = .int then 100 else 101) v.toNatClampNeg, znewG F G) else none
    | _ => none else none
  | .anewarray idx => if len = 3 then match st with
    | .int v :: rest => match zkln own idx with
      | some q => if ¬ v < 0 ∧ v.toNatClampNeg ≤ 100000 ∧ (q.2.2.1 = 6 ∨ q.2.2.1 = 3) then some (pc + 3, ls, .ref F.1 :: rest, znewF F (if q.2.2.1 = 6 then 102 else 103) v.toNatClampNeg, znewG F G) else none
      | none => none
    | _ => none else none
  | .invokestatic idx => if len = 3 then match zmxl own idx with
    | some q => match st with
      | .int y :: .int v :: rest => if (rest.map zcat).sum ≤ 8 then if q.2.2.1 = 1 then some (pc + 3, ls, .int (if v < y then y else v) :: rest, F, G) else some (pc + 3, ls, .int (if y < v then y else v) :: rest, F, G) else none
      | _ => none
    | none => match zacl own idx with
      | some _ => match zacp F G st with
        | some q => some (pc + 3, ls, q.1, F, q.2)
        | none => none
      | none => none else none
  | .invokespecial idx => if len = 3 then match zoil own idx with
    | some _ => match zoi F st with
      | some rest => some (pc + 3, ls, rest, F, G)
      | none => none
    | none => none else none
  | .new idx => if len = 3 then match zkln own idx with
    | some q => if q.2.2.1 < 9 then some (pc + 3, ls, .ref F.1 :: st, znewF F q.2.2.1 (zN q.2.2.1), znewG F G) else none
    | none => none else none
  | _ => none
/-- a call of a method of the table -/
def zck (own : Nat) (op : Instr) : Option (Nat × Nat × Nat × Bool × Nat) := match op with
  | .invokestatic idx => zcal own idx
  | .invokevirtual idx => zcal own idx
  | .invokespecial idx => zcal own idx
  | _ => none
/-- which way it is called: 0 static, 1 virtual, 2 special -/
def zway (op : Instr) : Nat := match op with
  | .invokestatic _ => 0
  | .invokevirtual _ => 1
  | _ => 2
def zent (maxL : Nat) (as : List Value) : zLs := (as.flatMap fun v => if zcat v = 2 then [some v, none] else [some v]) ++ List.replicate (maxL - (as.flatMap fun v => if zcat v = 2 then [some v, none] else [some v]).length) none
def zlok (LS : List Nat) : Nat → zLs → Bool
  | _, [] => true
  | i, o :: ls => (match o with
    | some v => zcat v != 2 || LS.contains i
    | none => true) && zlok LS (i + 1) ls
def zok1 (F : zF) (mi : zE) (as : List Value) : Bool := match as with
  | .ref a :: _ => zsh F a == mi.1 && decide (mi.1 < 9)
  | .float k :: _ => mi.1 == 11 && decide (k.toNat < 12)
  | _ => false
def zrt (mi : zE) (op : Instr) (len : Nat) (st : List Value) : Option (Option Value) := if len = 1 then match op with
    | .ireturn => match st with
      | [.int v] => match mi.2.2.2.2.1 with
        | some ty => if narrow ty (.int v) = .int v ∧ (ty = .int ∨ ty = .boolean ∨ ty = .char ∨ ty = .byte) then some (some (.int v)) else none
        | none => none
      | _ => none
    | .lreturn => match st with
      | [.long v] => if mi.2.2.2.2.1 = some .long then some (some (.long v)) else none
      | _ => none
    | .areturn => match st with
      | [v] => if zisr v = true then match mi.2.2.2.2.1 with
        | some (.object _) => some (some v)
        | _ => none else none
      | _ => none
    | .return_ => match st with
      | [] => if mi.2.2.2.2.1 = none then some none else none
      | _ => none
    | _ => none
  else none
/-- what a call finds: the method, its arguments, what stays on the stack -/
def zca (F : zF) (m : Nat) (way : Nat) (st : List Value) : Option (zE × List Value × List Value) := match zm m with
  | none => none
  | some mi => if mi.2.2.2.2.2.2.1 ≤ st.length ∧ ((st.drop mi.2.2.2.2.2.2.1).map zcat).sum ≤ 8 ∧ (mi.2.2.2.2.2.1 = true ↔ way = 0) ∧ (mi.2.1.name = "<init>" ↔ way = 2) ∧ (way = 0 ∨ zok1 F mi (st.take mi.2.2.2.2.2.2.1).reverse = true) ∧ (zent mi.2.2.2.1 (st.take mi.2.2.2.2.2.2.1).reverse).length = mi.2.2.2.1 ∧ zlok mi.2.2.2.2.2.2.2.1 0 (zent mi.2.2.2.1 (st.take mi.2.2.2.2.2.2.1).reverse) = true ∧ m + 1 < zml.length then some (mi, (st.take mi.2.2.2.2.2.2.1).reverse, st.drop mi.2.2.2.2.2.2.1) else none
/-- the evaluator: fuel, depth -/
def zev (x : zXs) : Nat → Nat → Nat → Nat → zLs → List Value → zF → zG → Option (Option Value × zF × zG)
  | 0, _, _, _, _, _, _, _ => none
  | n + 1, d, M, pc, ls, st, F, G => match zm M with
    | none => none
    | some mi => match zop M pc with
      | none => none
      | some (op, len) => match zck mi.1 op with
        | some q => match d with
          | 0 => none
          | d + 1 => if len = 3 then match zca F q.2.2.1 (zway op) st with
            | some (mj, as, rest) => match zev x n d q.2.2.1 0 (zent mj.2.2.2.1 as) [] F G with
              | some (r, F1, G1) => zev x n (d + 1) M (pc + 3) ls (r.toList ++ rest) F1 G1
              | none => none
            | none => none else none
        | none => match zrt mi op len st with
          | some r => some (r, F, G)
          | none => match zsi x mi.1 mi.2.2.2.2.2.2.2.1 (mi.2.1.name == "<init>") op len pc ls st F G with
            | some (pc1, ls1, st1, F1, G1) => zev x n d M pc1 ls1 st1 F1 G1
            | none => none
