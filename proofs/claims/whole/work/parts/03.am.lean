/-! ===== AM: a small machine over relative addresses (0..15 constants, 16.. made cells); its runs are proved to be the machine's in the parts behind ===== -/
abbrev aH : Type := (Nat → va_E) × Nat
abbrev aE : Type := Nat × Instr × Nat × Nat × Nat × Nat
abbrev aL : Type := List (Option Value)
abbrev aQ : Type := Option Value → aH → Prop
abbrev aC : Type := Nat → List Value → aH → Nat → Nat → aQ → Prop
abbrev aP : Type := Nat → aL → List Value → aH → Nat → Nat → Prop
/-- own class, name, bytes, locals, return type, is static, code -/
abbrev aM : Type := String × MethodName × ByteArray × Nat × Option FieldType × Bool × List aE
/-- the instruction at a place, with its two operands -/
def aGet (cd : List aE) (k : Nat) : Option (Instr × Nat × Nat) := match cd[k]? with
  | some (_, i, _, x, y, _) => some (i, x, y)
  | none => none
def aPc (cd : List aE) (k : Nat) : Nat := match cd[k]? with
  | some (pc, _) => pc
  | none => 0
def kConst : Instr → Option Value
  | .iconst n => some (.int (Int32.ofInt n))
  | .bipush n => some (.int (Int8.ofInt n).toInt32)
  | .sipush n => some (.int (Int16.ofInt n).toInt32)
  | .lconst n => some (.long (Int64.ofNat (n : Nat)))
  | .aconst_null => some .null
  | _ => none
/-- place, and 0 int, 1 long, 2 reference -/
def kLoad : Instr → Option (Nat × Nat)
  | .iload i => some (i, 0)
  | .iload_n i => some (i, 0)
  | .lload i => some (i, 1)
  | .lload_n i => some (i, 1)
  | .aload i => some (i, 2)
  | .aload_n i => some (i, 2)
  | _ => none
def kStore : Instr → Option (Nat × Nat)
  | .istore i => some (i, 0)
  | .istore_n i => some (i, 0)
  | .lstore i => some (i, 1)
  | .lstore_n i => some (i, 1)
  | .astore i => some (i, 2)
  | .astore_n i => some (i, 2)
  | _ => none
def kTy : Nat → Value → Prop
  | 0, .int _ => True
  | 1, .long _ => True
  | 2, .ref _ => True
  | 2, .null => True
  | _, _ => False
def kBin : Instr → Option (Int32 → Int32 → Int32)
  | .iadd => some (fun x y => x + y)
  | .isub => some (fun x y => x - y)
  | .imul => some (fun x y => x * y)
  | .iand => some (fun x y => x &&& y)
  | .ior => some (fun x y => x ||| y)
  | .ixor => some (fun x y => x ^^^ y)
  | .ishl => some (fun x y => x <<< (y &&& 31))
  | .ishr => some (fun x y => x >>> (y &&& 31))
  | .iushr => some (fun x y => (x.toUInt32 >>> (y.toUInt32 &&& Int32.toUInt32 31)).toInt32)
  | _ => none
def kDiv : Instr → Option (Int32 → Int32 → Int32)
  | .idiv => some (fun x y => x / y)
  | .irem => some (fun x y => x - x / y * y)
  | _ => none
def kBinL : Instr → Option (Int64 → Int64 → Int64)
  | .ladd => some (fun x y => x + y)
  | .lsub => some (fun x y => x - y)
  | .lmul => some (fun x y => x * y)
  | .land => some (fun x y => x &&& y)
  | .lor => some (fun x y => x ||| y)
  | .lxor => some (fun x y => x ^^^ y)
  | _ => none
def kShL : Instr → Option (Int64 → Int32 → Int64)
  | .lshl => some (fun x y => x <<< (y.toInt64 &&& 63))
  | .lshr => some (fun x y => x >>> (y.toInt64 &&& 63))
  | .lushr => some (fun x y => (x.toUInt64 >>> (y.toInt64.toUInt64 &&& Int64.toUInt64 63)).toInt64)
  | _ => none
def kUn : Instr → Option (Int32 → Int32)
  | .ineg => some (fun x => -x)
  | .i2b => some (fun x => x.toInt8.toInt32)
  | .i2c => some (fun x => (x.toUInt32 % 65536).toInt32)
  | _ => none
def kC : Jvm.ClassFile.Cond → Int32 → Int32 → Prop
  | .eq, x, y => x = y
  | .ne, x, y => ¬ x = y
  | .lt, x, y => x < y
  | .ge, x, y => y ≤ x
  | .gt, x, y => y < x
  | .le, x, y => x ≤ y
/-- a store to a local -/
def aClr (l : aL) : Nat → aL
  | 0 => l
  | i + 1 => match l[i]? with
    | some (some (.long _)) => l.set i none
    | some (some (.double _)) => l.set i none
    | _ => l
def aSet (l : aL) (i : Nat) (v : Value) : aL := match v with
  | .long _ => ((aClr l i).set i (some v)).set (i + 1) none
  | _ => (aClr l i).set i (some v)
def aUp (h : aH) (a : Nat) (e : va_E) : aH := (va_up h.1 a e, h.2)
def aNew (h : aH) (e : va_E) : aH := (va_up h.1 h.2 e, h.2 + 1)
abbrev aCls : List vw_C := vwCl
/-- the kinds of arrays -/
def aTy : Nat → FieldType
  | 0 => .int
  | 1 => .boolean
  | 2 => .byte
  | 3 => .long
  | 4 => .object RX1
  | 5 => .object RX7
  | _ => .object RX5
def aFT (ci k : Nat) : Option (String × String × String × Bool) := match aCls[ci]? with
  | some q => if k < q.2.2 then some (q.2.1 k) else none
  | none => none
/-- a value that a field's type takes as it is -/
def aFit (ci k : Nat) (v : Value) : Prop := ∃ q ty, aFT ci k = some q ∧ parseFieldDescriptor q.2.2.1 = some ty ∧ narrow ty v = v ∧ fits ty v = true
def aDef (ci : Nat) : List Value := match aCls[ci]? with
  | some q => (List.range q.2.2).map (fun k => match parseFieldDescriptor (q.2.1 k).2.2.1 with
    | some ty => defaultValue ty
    | none => .null)
  | none => []
def aN (ci : Nat) : Nat := match aCls[ci]? with
  | some q => q.2.2
  | none => 0
/-- a new array's contents: kind, length -/
def aArr0 (t n : Nat) : va_E := match t with
  | 0 => .inl (0, n, .inl (fun _ => 0))
  | 1 => .inl (1, n, .inl (fun _ => 0))
  | 2 => .inl (2, n, .inl (fun _ => 0))
  | 3 => .inl (3, n, .inr (.inl (fun _ => 0)))
  | t => .inl (t, n, .inr (.inr (.inr (.inr (fun _ => none)))))
def aCat (vs : List Value) : Nat := (vs.map fun v => v.category).sum
def aRef (r : Option Nat) : Value := va_rf r
def aRT (rt : Option FieldType) (v : Option Value) : Prop := match rt, v with
  | none, none => True
  | some ty, some (.int x) => narrow ty (.int x) = .int x ∧ fits ty (.int x) = true
  | some .long, some (.long _) => True
  | some (.object _), some (.ref _) => True
  | some (.object _), some .null => True
  | some (.array _), some (.ref _) => True
  | some (.array _), some .null => True
  | _, _ => False
def kRet : Instr → Value → Prop
  | .ireturn, .int _ => True
  | .lreturn, .long _ => True
  | .areturn, .ref _ => True
  | .areturn, .null => True
  | _, _ => False
def aRul (cl : aC) (cd : List aE) (C S : Nat) (rt : Option FieldType) (ini : Bool) (Q : aQ) (P : aP) (n : Nat) : Prop := match n with
  | 0 => ∀ k i x y v l st h c s, aGet cd k = some (i, x, y) → kConst i = some v → P (k + 1) l (v :: st) h c s → P k l st h c s
  | 1 => ∀ k i x y j t v l st h c s, aGet cd k = some (i, x, y) → kLoad i = some (j, t) → l[j]? = some (some v) → kTy t v → P (k + 1) l (v :: st) h c s → P k l st h c s
  | 2 => ∀ k i x y j t v l st h c s, aGet cd k = some (i, x, y) → kStore i = some (j, t) → kTy t v → j + t % 2 < l.length → P (k + 1) (aSet l j v) st h c s → P k l (v :: st) h c s
  | 3 => ∀ k i x y f a b l st h c s, aGet cd k = some (i, x, y) → kBin i = some f → P (k + 1) l (.int (f a b) :: st) h c s → P k l (.int b :: .int a :: st) h c s
  | 4 => ∀ k i x y f a b l st h c s, aGet cd k = some (i, x, y) → kDiv i = some f → ¬ b = 0 → P (k + 1) l (.int (f a b) :: st) h c s → P k l (.int b :: .int a :: st) h c s
  | 5 => ∀ k i x y f a b l st h c s, aGet cd k = some (i, x, y) → kBinL i = some f → P (k + 1) l (.long (f a b) :: st) h c s → P k l (.long b :: .long a :: st) h c s
  | 6 => ∀ k i x y f a b l st h c s, aGet cd k = some (i, x, y) → kShL i = some f → P (k + 1) l (.long (f a b) :: st) h c s → P k l (.int b :: .long a :: st) h c s
  | 7 => ∀ k i x y f a l st h c s, aGet cd k = some (i, x, y) → kUn i = some f → P (k + 1) l (.int (f a) :: st) h c s → P k l (.int a :: st) h c s
  | 8 => ∀ k x y a l st h c s, aGet cd k = some (.lneg, x, y) → P (k + 1) l (.long (-a) :: st) h c s → P k l (.long a :: st) h c s
  | 9 => ∀ k x y a l st h c s, aGet cd k = some (.i2l, x, y) → P (k + 1) l (.long (Int32.toInt64 a) :: st) h c s → P k l (.int a :: st) h c s
  | 10 => ∀ k x y a l st h c s, aGet cd k = some (.l2i, x, y) → P (k + 1) l (.int (Int64.toInt32 a) :: st) h c s → P k l (.long a :: st) h c s
  | 11 => ∀ k x y a b l st h c s, aGet cd k = some (.lcmp, x, y) → P (k + 1) l (.int (lg_cmp a b) :: st) h c s → P k l (.long b :: .long a :: st) h c s
  | 12 => ∀ k j n x y a l st h c s, aGet cd k = some (.iinc j n, x, y) → l[j]? = some (some (.int a)) → P (k + 1) (l.set j (some (.int (a + Int32.ofInt n)))) st h c s → P k l st h c s
  | 13 => ∀ k x y v l st h c s, aGet cd k = some (.dup, x, y) → Value.category v = 1 → P (k + 1) l (v :: v :: st) h c s → P k l (v :: st) h c s
  | 14 => ∀ k x y v l st h c s, aGet cd k = some (.pop, x, y) → Value.category v = 1 → P (k + 1) l st h c s → P k l (v :: st) h c s
  | 15 => ∀ k x y v w l st h c s, aGet cd k = some (.dup2, x, y) → Value.category v = 1 → Value.category w = 1 → P (k + 1) l (v :: w :: v :: w :: st) h c s → P k l (v :: w :: st) h c s
  | 16 => ∀ k x y v w l st h c s, aGet cd k = some (.dup_x1, x, y) → Value.category v = 1 → Value.category w = 1 → P (k + 1) l (v :: w :: v :: st) h c s → P k l (v :: w :: st) h c s
  | 17 => ∀ k co off x y a l st h c s, aGet cd k = some (.ifCond co off, x, y) → (kC co a 0 → P x l st h c s) → (¬ kC co a 0 → P (k + 1) l st h c s) → P k l (.int a :: st) h c s
  | 18 => ∀ k co off x y a b l st h c s, aGet cd k = some (.if_icmp co off, x, y) → (kC co a b → P x l st h c s) → (¬ kC co a b → P (k + 1) l st h c s) → P k l (.int b :: .int a :: st) h c s
  | 19 => ∀ k off x y l st h c s, aGet cd k = some (.goto off, x, y) → P x l st h c s → P k l st h c s
  | 20 => ∀ k off x y a l st h c s, aGet cd k = some (.ifnull off, x, y) → P (k + 1) l st h c s → P k l (.ref a :: st) h c s
  | 21 => ∀ k off x y l st h c s, aGet cd k = some (.ifnull off, x, y) → P x l st h c s → P k l (.null :: st) h c s
  | 22 => ∀ k off x y a l st h c s, aGet cd k = some (.ifnonnull off, x, y) → P x l st h c s → P k l (.ref a :: st) h c s
  | 23 => ∀ k off x y l st h c s, aGet cd k = some (.ifnonnull off, x, y) → P (k + 1) l st h c s → P k l (.null :: st) h c s
  | 24 => ∀ k d lo hi offs x y a t l st h c s, aGet cd k = some (.tableswitch d lo hi offs, x, y) → (Int32.toInt a < lo ∨ hi < Int32.toInt a) → (aPc cd k : Int) + d = (aPc cd t : Int) → P t l st h c s → P k l (.int a :: st) h c s
  | 25 => ∀ k d lo hi offs x y a o t l st h c s, aGet cd k = some (.tableswitch d lo hi offs, x, y) → ¬ Int32.toInt a < lo → ¬ hi < Int32.toInt a → (offs : Array Int)[(Int32.toInt a - lo).toNat]? = some o → (aPc cd k : Int) + o = (aPc cd t : Int) → P t l st h c s → P k l (.int a :: st) h c s
  | 26 => ∀ k j ci f a fs v l st h c s, aGet cd k = some (.getfield j, ci, f) → 16 ≤ a → a < h.2 → (h : aH).1 a = .inr (ci, fs) → fs[f]? = some v → P (k + 1) l (v :: st) h c s → P k l (.ref a :: st) h c s
  | 27 => ∀ k j ci f a fs v l st h c s, aGet cd k = some (.putfield j, ci, f) → 16 ≤ a → a < h.2 → (h : aH).1 a = .inr (ci, fs) → f < fs.length → aFit ci f v → P (k + 1) l st (aUp h a (.inr (ci, fs.set f v))) c s → P k l (v :: .ref a :: st) h c s
  | 28 => ∀ k x y a t u l st h c s, aGet cd k = some (.arraylength, x, y) → a < h.2 → (h : aH).1 a = .inl (t, u) → t < 7 → P (k + 1) l (.int (Int32.ofNat u.1) :: st) h c s → P k l (.ref a :: st) h c s
  | 29 => ∀ k x y a n f i l st h c s, aGet cd k = some (.iaload, x, y) → a < h.2 → (h : aH).1 a = .inl (0, n, .inl f) → vp_in i n → P (k + 1) l (.int (f i.toNatClampNeg) :: st) h c s → P k l (.int i :: .ref a :: st) h c s
  | 30 => ∀ k x y a t n f i l st h c s, aGet cd k = some (.baload, x, y) → a < h.2 → (t = 1 ∨ t = 2) → (h : aH).1 a = .inl (t, n, .inl f) → vp_in i n → P (k + 1) l (.int (f i.toNatClampNeg) :: st) h c s → P k l (.int i :: .ref a :: st) h c s
  | 31 => ∀ k x y a n f i l st h c s, aGet cd k = some (.laload, x, y) → 16 ≤ a → a < h.2 → (h : aH).1 a = .inl (3, n, .inr (.inl f)) → vp_in i n → P (k + 1) l (.long (f i.toNatClampNeg) :: st) h c s → P k l (.int i :: .ref a :: st) h c s
  | 32 => ∀ k x y a t n f i l st h c s, aGet cd k = some (.aaload, x, y) → 16 ≤ a → a < h.2 → 4 ≤ t → t < 7 → (h : aH).1 a = .inl (t, n, .inr (.inr (.inr (.inr f)))) → vp_in i n → P (k + 1) l (aRef (f i.toNatClampNeg) :: st) h c s → P k l (.int i :: .ref a :: st) h c s
  | 33 => ∀ k x y a n f i v l st h c s, aGet cd k = some (.iastore, x, y) → 16 ≤ a → a < h.2 → (h : aH).1 a = .inl (0, n, .inl f) → vp_in i n → P (k + 1) l st (aUp h a (.inl (0, n, .inl (upd f i.toNatClampNeg v)))) c s → P k l (.int v :: .int i :: .ref a :: st) h c s
  | 34 => ∀ k x y a n f i v l st h c s, aGet cd k = some (.bastore, x, y) → 16 ≤ a → a < h.2 → (h : aH).1 a = .inl (1, n, .inl f) → vp_in i n → P (k + 1) l st (aUp h a (.inl (1, n, .inl (upd f i.toNatClampNeg (vp_nar .boolean v))))) c s → P k l (.int v :: .int i :: .ref a :: st) h c s
  | 35 => ∀ k x y a n f i v l st h c s, aGet cd k = some (.bastore, x, y) → 16 ≤ a → a < h.2 → (h : aH).1 a = .inl (2, n, .inl f) → vp_in i n → P (k + 1) l st (aUp h a (.inl (2, n, .inl (upd f i.toNatClampNeg (vp_nar .byte v))))) c s → P k l (.int v :: .int i :: .ref a :: st) h c s
  | 36 => ∀ k x y a n f i v l st h c s, aGet cd k = some (.lastore, x, y) → 16 ≤ a → a < h.2 → (h : aH).1 a = .inl (3, n, .inr (.inl f)) → vp_in i n → P (k + 1) l st (aUp h a (.inl (3, n, .inr (.inl (vp_updL f i.toNatClampNeg v))))) c s → P k l (.long v :: .int i :: .ref a :: st) h c s
  | 37 => ∀ k x y a t n f i b ci fs q l st h c s, aGet cd k = some (.aastore, x, y) → 16 ≤ a → a < h.2 → 4 ≤ t → t < 7 → (h : aH).1 a = .inl (t, n, .inr (.inr (.inr (.inr f)))) → vp_in i n → 16 ≤ b → b < h.2 → (h : aH).1 b = .inr (ci, fs) → aCls[ci]? = some q → aTy t = .object q.1 → P (k + 1) l st (aUp h a (.inl (t, n, .inr (.inr (.inr (.inr (va_up f i.toNatClampNeg (some b)))))))) c s → P k l (.ref b :: .int i :: .ref a :: st) h c s
  | 38 => ∀ k at' t y n l st h c s, aGet cd k = some (.newarray at', t, y) → t < 4 → ¬ n < 0 → n.toNatClampNeg ≤ 100000 → c + 1 ≤ C → s + n.toNatClampNeg ≤ S → P (k + 1) l (.ref h.2 :: st) (aNew h (aArr0 t n.toNatClampNeg)) (c + 1) (s + n.toNatClampNeg) → P k l (.int n :: st) h c s
  | 39 => ∀ k j t y n l st h c s, aGet cd k = some (.anewarray j, t, y) → 4 ≤ t → t < 7 → ¬ n < 0 → n.toNatClampNeg ≤ 100000 → c + 1 ≤ C → s + n.toNatClampNeg ≤ S → P (k + 1) l (.ref h.2 :: st) (aNew h (aArr0 t n.toNatClampNeg)) (c + 1) (s + n.toNatClampNeg) → P k l (.int n :: st) h c s
  | 40 => ∀ k j ci y l st h c s, aGet cd k = some (.new j, ci, y) → c + 1 ≤ C → s + aN ci ≤ S → P (k + 1) l (.ref h.2 :: st) (aNew h (.inr (ci, aDef ci))) (c + 1) (s + aN ci) → P k l st h c s
  | 41 => ∀ k j a y l st h c s, aGet cd k = some (.getstatic j, a, y) → y < 2 → P (k + 1) l ((if y = 0 then .ref a else .int (Int32.ofNat a)) :: st) h c s → P k l st h c s
  | 42 => ∀ k i x y l st h c s, aGet cd k = some (i, x, y) → (∃ j, i = .ldc j ∨ i = .ldc_w j) → P (k + 1) l ((if y = 0 then .int (Int32.ofNat x) else .ref x) :: st) h c s → P k l st h c s
  | 43 => ∀ k j x y l st h c s, aGet cd k = some (.ldc2_w j, x, y) → P (k + 1) l (.long (Int64.ofNat x) :: st) h c s → P k l st h c s
  | 44 => ∀ k i x n as st mc ms l h c s, aGet cd k = some (i, x, n) → (∃ j, i = .invokestatic j) → as.length = n → aCat st ≤ 8 → c + mc ≤ C → s + ms ≤ S → cl x as h mc ms (fun r h' => P (k + 1) l (r.toList ++ st) h' (c + mc) (s + ms)) → P k l (as.reverse ++ st) h c s
  | 45 => ∀ k i x n a as st mc ms ci fs l h c s, aGet cd k = some (i, x, n + 16 * ci) → (∃ j, i = .invokevirtual j) → n < 16 → as.length = n → 16 ≤ a → a < h.2 → (h : aH).1 a = .inr (ci, fs) → aCat st ≤ 8 → c + mc ≤ C → s + ms ≤ S → cl x (.ref a :: as) h mc ms (fun r h' => P (k + 1) l (r.toList ++ st) h' (c + mc) (s + ms)) → P k l (as.reverse ++ .ref a :: st) h c s
  | 46 => ∀ k i x n a as st mc ms l h c s, aGet cd k = some (i, x, n) → (∃ j, i = .invokespecial j) → x < 1000 → n < 16 → as.length = n → aCat st ≤ 8 → c + mc ≤ C → s + ms ≤ S → cl x (.ref a :: as) h mc ms (fun r h' => P (k + 1) l (r.toList ++ st) h' (c + mc) (s + ms)) → P k l (as.reverse ++ .ref a :: st) h c s
  | 47 => ∀ k j n a st l h c s, aGet cd k = some (.invokespecial j, 1000, n) → aCat st ≤ 8 → P (k + 1) l st h c s → P k l (.ref a :: st) h c s
  | 48 => ∀ k x y l h c s, aGet cd k = some (.return_, x, y) → rt = none → c ≤ C → s ≤ S → Q none h → P k l [] h c s
  | 49 => ∀ k i x y v l h c s, aGet cd k = some (i, x, y) → kRet i v → aRT rt (some v) → c ≤ C → s ≤ S → Q (some v) h → P k l [v] h c s
  | 50 => ∀ k j f a fs v l st h c s, aGet cd k = some (.getfield j, 9, f) → a < 16 → (h : aH).1 a = .inr (9, fs) → fs[f]? = some v → P (k + 1) l (v :: st) h c s → P k l (.ref a :: st) h c s
  | 51 => ∀ k i x n a as st mc ms fs l h c s, aGet cd k = some (i, x, n + 16 * 9) → (∃ j, i = .invokevirtual j) → n < 16 → as.length = n → a < 16 → (h : aH).1 a = .inr (9, fs) → aCat st ≤ 8 → c + mc ≤ C → s + ms ≤ S → cl x (.ref a :: as) h mc ms (fun r h' => P (k + 1) l (r.toList ++ st) h' (c + mc) (s + ms)) → P k l (as.reverse ++ .ref a :: st) h c s
  | 52 => ∀ k i x n a as st mc ms fs l h c s, aGet cd k = some (i, x, n + 1000) → (∃ j, i = .invokespecial j) → x < 1000 → as.length = n → 16 ≤ a → a < h.2 → (h : aH).1 a = .inr (0, fs) → aCat st ≤ 8 → c + mc ≤ C → s + ms ≤ S → cl x (.ref a :: as) h mc ms (fun r h' => P (k + 1) l (r.toList ++ st) h' (c + mc) (s + ms)) → P k l (as.reverse ++ .ref a :: st) h c s
  | 53 => ∀ k x y a b na nb f g n l st h c s, aGet cd k = some (.monitorenter, x, y) → b < 16 → (h : aH).1 b = .inl (2, nb, .inl f) → 16 ≤ a → a < h.2 → (h : aH).1 a = .inl (2, na, .inl g) → aCat st ≤ 8 → n ≤ nb → ∀ dp : Nat, dp + n ≤ na → na < 100000 → nb < 100000 → (∀ i, i < n → fits .byte (.int (f i)) = true) → P (k + 1) l st (aUp h a (.inl (2, na, .inl (va_cpy f g 0 dp n)))) c s → P k l (.int (nI n) :: .int (nI dp) :: .ref a :: .int 0 :: .ref b :: st) h c s
  | 54 => ∀ k j a l st h c s, aGet cd k = some (.getstatic j, a, 2) → P (k + 1) l (.null :: st) h c s → P (k + 1) l (.ref a :: st) h c s → P k l st h c s
  | _ => True
def aB (cl : aC) (cd : List aE) (C S : Nat) (rt : Option FieldType) (ini : Bool) (Q : aQ) : aP := fun k l st h c s => ∀ P : aP, (∀ n, aRul cl cd C S rt ini Q P n) → P k l st h c s
/-- the arguments in the locals -/
def aArg (vs : List Value) : aL := vs.flatMap fun v => if v.category = 2 then [some v, none] else [some v]
def aEnt (n : Nat) (vs : List Value) : aL := aArg vs ++ List.replicate (n - (aArg vs).length) none
def aRun (pg : Nat → Option aM) (pr : aC) : Nat → aC
  | 0 => fun _ _ _ _ _ _ => False
  | d + 1 => fun j as h mc ms Q => pr j as h mc ms Q ∨ ∃ mi : aM, pg j = some mi ∧ (aArg as).length ≤ mi.2.2.2.1 ∧ aB (aRun pg pr d) mi.2.2.2.2.2.2 mc ms mi.2.2.2.2.1 (mi.2.1.name == "<init>") Q 0 (aEnt mi.2.2.2.1 as) [] h 0 0
