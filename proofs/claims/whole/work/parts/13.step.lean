/-! ===== steps over an abstract state u: Rp u h says how a heap h holds it, Fr h0 h that the rest stayed ===== -/
def gB {σ : Type} (Rp : σ → aH → Prop) (Fr : aH → aH → Prop) (cl : aC) (cd : List aE) (C S : Nat) (rt : Option FieldType) (Q : Option Value → σ → Prop) (k : Nat) (l : aL) (st : List Value) (u : σ) (c s : Nat) : Prop :=
  ∀ (h0 h : aH) (QQ : aQ), Rp u h → Fr h0 h → (∀ r h' u', Rp u' h' → Fr h0 h' → Q r u' → QQ r h') → aB cl cd C S rt false QQ k l st h c s
def gR {σ : Type} (Rp : σ → aH → Prop) (Fr : aH → aH → Prop) (cl : aC) (j : Nat) (as : List Value) (u : σ) (mc ms : Nat) (Q : Option Value → σ → Prop) : Prop :=
  ∀ (h : aH) (QQ : aQ), Rp u h → (∀ r h' u', Rp u' h' → Fr h h' → Q r u' → QQ r h') → cl j as h mc ms QQ
section GB
variable {σ : Type} {Rp : σ → aH → Prop} {Fr : aH → aH → Prop} {cl : aC} {cd : List aE} {C S : Nat} {rt : Option FieldType} {Q : Option Value → σ → Prop} {k : Nat} {l : aL} {st sk : List Value} {u : σ} {c s : Nat}
theorem g_iconst {n : Int} {x y : Nat} (v : Int32) (hg : aGet cd k = some (.iconst n, x, y)) (hv : Int32.ofInt n = v) (hP : gB Rp Fr cl cd C S rt Q (k + 1) l (.int v :: st) u c s) : gB Rp Fr cl cd C S rt Q k l st u c s :=
  fun h0 h QQ hR hF hQ P hr => hr 0 k _ x y (.int v) l st h c s hg (by rw [← hv]; rfl) (hP h0 h QQ hR hF hQ P hr)
theorem g_bipush {n : Int} {x y : Nat} (v : Int32) (hg : aGet cd k = some (.bipush n, x, y)) (hv : (Int8.ofInt n).toInt32 = v) (hP : gB Rp Fr cl cd C S rt Q (k + 1) l (.int v :: st) u c s) : gB Rp Fr cl cd C S rt Q k l st u c s :=
  fun h0 h QQ hR hF hQ P hr => hr 0 k _ x y (.int v) l st h c s hg (by rw [← hv]; rfl) (hP h0 h QQ hR hF hQ P hr)
theorem g_sipush {n : Int} {x y : Nat} (v : Int32) (hg : aGet cd k = some (.sipush n, x, y)) (hv : (Int16.ofInt n).toInt32 = v) (hP : gB Rp Fr cl cd C S rt Q (k + 1) l (.int v :: st) u c s) : gB Rp Fr cl cd C S rt Q k l st u c s :=
  fun h0 h QQ hR hF hQ P hr => hr 0 k _ x y (.int v) l st h c s hg (by rw [← hv]; rfl) (hP h0 h QQ hR hF hQ P hr)
theorem g_lconst {n : Fin 2} {x y : Nat} (v : Int64) (hg : aGet cd k = some (.lconst n, x, y)) (hv : Int64.ofNat (n : Nat) = v) (hP : gB Rp Fr cl cd C S rt Q (k + 1) l (.long v :: st) u c s) : gB Rp Fr cl cd C S rt Q k l st u c s :=
  fun h0 h QQ hR hF hQ P hr => hr 0 k _ x y (.long v) l st h c s hg (by rw [← hv]; rfl) (hP h0 h QQ hR hF hQ P hr)
theorem g_null {x y : Nat} (hg : aGet cd k = some (.aconst_null, x, y)) (hP : gB Rp Fr cl cd C S rt Q (k + 1) l (.null :: st) u c s) : gB Rp Fr cl cd C S rt Q k l st u c s :=
  fun h0 h QQ hR hF hQ P hr => hr 0 k _ x y .null l st h c s hg rfl (hP h0 h QQ hR hF hQ P hr)
theorem g_load {i : Instr} {x y j t : Nat} {v : Value} (hg : aGet cd k = some (i, x, y)) (hk : kLoad i = some (j, t)) (hl : l[j]? = some (some v)) (ht : kTy t v) (hP : gB Rp Fr cl cd C S rt Q (k + 1) l (v :: st) u c s) : gB Rp Fr cl cd C S rt Q k l st u c s :=
  fun h0 h QQ hR hF hQ P hr => hr 1 k _ x y j t v l st h c s hg hk hl ht (hP h0 h QQ hR hF hQ P hr)
theorem g_store {i : Instr} {x y j t : Nat} {v : Value} (l' : aL) (hg : aGet cd k = some (i, x, y)) (hk : kStore i = some (j, t)) (ht : kTy t v) (hj : j + t % 2 < l.length) (hl : aSet l j v = l') (hP : gB Rp Fr cl cd C S rt Q (k + 1) l' st u c s) : gB Rp Fr cl cd C S rt Q k l (v :: st) u c s :=
  fun h0 h QQ hR hF hQ P hr => hr 2 k _ x y j t v l st h c s hg hk ht hj (hl ▸ hP h0 h QQ hR hF hQ P hr)
theorem g_iadd {x y : Nat} {a b : Int32} (hg : aGet cd k = some (.iadd, x, y)) (hP : gB Rp Fr cl cd C S rt Q (k + 1) l (.int (a + b) :: st) u c s) : gB Rp Fr cl cd C S rt Q k l (.int b :: .int a :: st) u c s :=
  fun h0 h QQ hR hF hQ P hr => hr 3 k _ x y _ a b l st h c s hg rfl (hP h0 h QQ hR hF hQ P hr)
theorem g_isub {x y : Nat} {a b : Int32} (hg : aGet cd k = some (.isub, x, y)) (hP : gB Rp Fr cl cd C S rt Q (k + 1) l (.int (a - b) :: st) u c s) : gB Rp Fr cl cd C S rt Q k l (.int b :: .int a :: st) u c s :=
  fun h0 h QQ hR hF hQ P hr => hr 3 k _ x y _ a b l st h c s hg rfl (hP h0 h QQ hR hF hQ P hr)
theorem g_imul {x y : Nat} {a b : Int32} (hg : aGet cd k = some (.imul, x, y)) (hP : gB Rp Fr cl cd C S rt Q (k + 1) l (.int (a * b) :: st) u c s) : gB Rp Fr cl cd C S rt Q k l (.int b :: .int a :: st) u c s :=
  fun h0 h QQ hR hF hQ P hr => hr 3 k _ x y _ a b l st h c s hg rfl (hP h0 h QQ hR hF hQ P hr)
theorem g_iand {x y : Nat} {a b : Int32} (hg : aGet cd k = some (.iand, x, y)) (hP : gB Rp Fr cl cd C S rt Q (k + 1) l (.int (a &&& b) :: st) u c s) : gB Rp Fr cl cd C S rt Q k l (.int b :: .int a :: st) u c s :=
  fun h0 h QQ hR hF hQ P hr => hr 3 k _ x y _ a b l st h c s hg rfl (hP h0 h QQ hR hF hQ P hr)
theorem g_ior {x y : Nat} {a b : Int32} (hg : aGet cd k = some (.ior, x, y)) (hP : gB Rp Fr cl cd C S rt Q (k + 1) l (.int (a ||| b) :: st) u c s) : gB Rp Fr cl cd C S rt Q k l (.int b :: .int a :: st) u c s :=
  fun h0 h QQ hR hF hQ P hr => hr 3 k _ x y _ a b l st h c s hg rfl (hP h0 h QQ hR hF hQ P hr)
theorem g_ixor {x y : Nat} {a b : Int32} (hg : aGet cd k = some (.ixor, x, y)) (hP : gB Rp Fr cl cd C S rt Q (k + 1) l (.int (a ^^^ b) :: st) u c s) : gB Rp Fr cl cd C S rt Q k l (.int b :: .int a :: st) u c s :=
  fun h0 h QQ hR hF hQ P hr => hr 3 k _ x y _ a b l st h c s hg rfl (hP h0 h QQ hR hF hQ P hr)
theorem g_ishl {x y : Nat} {a b : Int32} (hg : aGet cd k = some (.ishl, x, y)) (hP : gB Rp Fr cl cd C S rt Q (k + 1) l (.int (a <<< (b &&& 31)) :: st) u c s) : gB Rp Fr cl cd C S rt Q k l (.int b :: .int a :: st) u c s :=
  fun h0 h QQ hR hF hQ P hr => hr 3 k _ x y _ a b l st h c s hg rfl (hP h0 h QQ hR hF hQ P hr)
theorem g_ishr {x y : Nat} {a b : Int32} (hg : aGet cd k = some (.ishr, x, y)) (hP : gB Rp Fr cl cd C S rt Q (k + 1) l (.int (a >>> (b &&& 31)) :: st) u c s) : gB Rp Fr cl cd C S rt Q k l (.int b :: .int a :: st) u c s :=
  fun h0 h QQ hR hF hQ P hr => hr 3 k _ x y _ a b l st h c s hg rfl (hP h0 h QQ hR hF hQ P hr)
theorem g_iushr {x y : Nat} {a b : Int32} (hg : aGet cd k = some (.iushr, x, y)) (hP : gB Rp Fr cl cd C S rt Q (k + 1) l (.int ((a.toUInt32 >>> (b.toUInt32 &&& Int32.toUInt32 31)).toInt32) :: st) u c s) : gB Rp Fr cl cd C S rt Q k l (.int b :: .int a :: st) u c s :=
  fun h0 h QQ hR hF hQ P hr => hr 3 k _ x y _ a b l st h c s hg rfl (hP h0 h QQ hR hF hQ P hr)
theorem g_idiv {x y : Nat} {a b : Int32} (hg : aGet cd k = some (.idiv, x, y)) (hb : ¬ b = 0) (hP : gB Rp Fr cl cd C S rt Q (k + 1) l (.int (a / b) :: st) u c s) : gB Rp Fr cl cd C S rt Q k l (.int b :: .int a :: st) u c s :=
  fun h0 h QQ hR hF hQ P hr => hr 4 k _ x y _ a b l st h c s hg rfl hb (hP h0 h QQ hR hF hQ P hr)
theorem g_irem {x y : Nat} {a b : Int32} (hg : aGet cd k = some (.irem, x, y)) (hb : ¬ b = 0) (hP : gB Rp Fr cl cd C S rt Q (k + 1) l (.int (a - a / b * b) :: st) u c s) : gB Rp Fr cl cd C S rt Q k l (.int b :: .int a :: st) u c s :=
  fun h0 h QQ hR hF hQ P hr => hr 4 k _ x y _ a b l st h c s hg rfl hb (hP h0 h QQ hR hF hQ P hr)
theorem g_ladd {x y : Nat} {a b : Int64} (hg : aGet cd k = some (.ladd, x, y)) (hP : gB Rp Fr cl cd C S rt Q (k + 1) l (.long (a + b) :: st) u c s) : gB Rp Fr cl cd C S rt Q k l (.long b :: .long a :: st) u c s :=
  fun h0 h QQ hR hF hQ P hr => hr 5 k _ x y _ a b l st h c s hg rfl (hP h0 h QQ hR hF hQ P hr)
theorem g_lsub {x y : Nat} {a b : Int64} (hg : aGet cd k = some (.lsub, x, y)) (hP : gB Rp Fr cl cd C S rt Q (k + 1) l (.long (a - b) :: st) u c s) : gB Rp Fr cl cd C S rt Q k l (.long b :: .long a :: st) u c s :=
  fun h0 h QQ hR hF hQ P hr => hr 5 k _ x y _ a b l st h c s hg rfl (hP h0 h QQ hR hF hQ P hr)
theorem g_lmul {x y : Nat} {a b : Int64} (hg : aGet cd k = some (.lmul, x, y)) (hP : gB Rp Fr cl cd C S rt Q (k + 1) l (.long (a * b) :: st) u c s) : gB Rp Fr cl cd C S rt Q k l (.long b :: .long a :: st) u c s :=
  fun h0 h QQ hR hF hQ P hr => hr 5 k _ x y _ a b l st h c s hg rfl (hP h0 h QQ hR hF hQ P hr)
theorem g_land {x y : Nat} {a b : Int64} (hg : aGet cd k = some (.land, x, y)) (hP : gB Rp Fr cl cd C S rt Q (k + 1) l (.long (a &&& b) :: st) u c s) : gB Rp Fr cl cd C S rt Q k l (.long b :: .long a :: st) u c s :=
  fun h0 h QQ hR hF hQ P hr => hr 5 k _ x y _ a b l st h c s hg rfl (hP h0 h QQ hR hF hQ P hr)
theorem g_lor {x y : Nat} {a b : Int64} (hg : aGet cd k = some (.lor, x, y)) (hP : gB Rp Fr cl cd C S rt Q (k + 1) l (.long (a ||| b) :: st) u c s) : gB Rp Fr cl cd C S rt Q k l (.long b :: .long a :: st) u c s :=
  fun h0 h QQ hR hF hQ P hr => hr 5 k _ x y _ a b l st h c s hg rfl (hP h0 h QQ hR hF hQ P hr)
theorem g_lxor {x y : Nat} {a b : Int64} (hg : aGet cd k = some (.lxor, x, y)) (hP : gB Rp Fr cl cd C S rt Q (k + 1) l (.long (a ^^^ b) :: st) u c s) : gB Rp Fr cl cd C S rt Q k l (.long b :: .long a :: st) u c s :=
  fun h0 h QQ hR hF hQ P hr => hr 5 k _ x y _ a b l st h c s hg rfl (hP h0 h QQ hR hF hQ P hr)
theorem g_lshl {x y : Nat} {a : Int64} {b : Int32} (hg : aGet cd k = some (.lshl, x, y)) (hP : gB Rp Fr cl cd C S rt Q (k + 1) l (.long (a <<< (b.toInt64 &&& 63)) :: st) u c s) : gB Rp Fr cl cd C S rt Q k l (.int b :: .long a :: st) u c s :=
  fun h0 h QQ hR hF hQ P hr => hr 6 k _ x y _ a b l st h c s hg rfl (hP h0 h QQ hR hF hQ P hr)
theorem g_lshr {x y : Nat} {a : Int64} {b : Int32} (hg : aGet cd k = some (.lshr, x, y)) (hP : gB Rp Fr cl cd C S rt Q (k + 1) l (.long (a >>> (b.toInt64 &&& 63)) :: st) u c s) : gB Rp Fr cl cd C S rt Q k l (.int b :: .long a :: st) u c s :=
  fun h0 h QQ hR hF hQ P hr => hr 6 k _ x y _ a b l st h c s hg rfl (hP h0 h QQ hR hF hQ P hr)
theorem g_lushr {x y : Nat} {a : Int64} {b : Int32} (hg : aGet cd k = some (.lushr, x, y)) (hP : gB Rp Fr cl cd C S rt Q (k + 1) l (.long ((a.toUInt64 >>> (b.toInt64.toUInt64 &&& Int64.toUInt64 63)).toInt64) :: st) u c s) : gB Rp Fr cl cd C S rt Q k l (.int b :: .long a :: st) u c s :=
  fun h0 h QQ hR hF hQ P hr => hr 6 k _ x y _ a b l st h c s hg rfl (hP h0 h QQ hR hF hQ P hr)
theorem g_ineg {x y : Nat} {a : Int32} (hg : aGet cd k = some (.ineg, x, y)) (hP : gB Rp Fr cl cd C S rt Q (k + 1) l (.int (-a) :: st) u c s) : gB Rp Fr cl cd C S rt Q k l (.int a :: st) u c s :=
  fun h0 h QQ hR hF hQ P hr => hr 7 k _ x y _ a l st h c s hg rfl (hP h0 h QQ hR hF hQ P hr)
theorem g_i2b {x y : Nat} {a : Int32} (hg : aGet cd k = some (.i2b, x, y)) (hP : gB Rp Fr cl cd C S rt Q (k + 1) l (.int (a.toInt8.toInt32) :: st) u c s) : gB Rp Fr cl cd C S rt Q k l (.int a :: st) u c s :=
  fun h0 h QQ hR hF hQ P hr => hr 7 k _ x y _ a l st h c s hg rfl (hP h0 h QQ hR hF hQ P hr)
theorem g_i2c {x y : Nat} {a : Int32} (hg : aGet cd k = some (.i2c, x, y)) (hP : gB Rp Fr cl cd C S rt Q (k + 1) l (.int ((a.toUInt32 % 65536).toInt32) :: st) u c s) : gB Rp Fr cl cd C S rt Q k l (.int a :: st) u c s :=
  fun h0 h QQ hR hF hQ P hr => hr 7 k _ x y _ a l st h c s hg rfl (hP h0 h QQ hR hF hQ P hr)
theorem g_lneg {x y : Nat} {a : Int64} (hg : aGet cd k = some (.lneg, x, y)) (hP : gB Rp Fr cl cd C S rt Q (k + 1) l (.long (-a) :: st) u c s) : gB Rp Fr cl cd C S rt Q k l (.long a :: st) u c s :=
  fun h0 h QQ hR hF hQ P hr => hr 8 k x y a l st h c s hg (hP h0 h QQ hR hF hQ P hr)
theorem g_i2l {x y : Nat} {a : Int32} (hg : aGet cd k = some (.i2l, x, y)) (hP : gB Rp Fr cl cd C S rt Q (k + 1) l (.long (Int32.toInt64 a) :: st) u c s) : gB Rp Fr cl cd C S rt Q k l (.int a :: st) u c s :=
  fun h0 h QQ hR hF hQ P hr => hr 9 k x y a l st h c s hg (hP h0 h QQ hR hF hQ P hr)
theorem g_l2i {x y : Nat} {a : Int64} (hg : aGet cd k = some (.l2i, x, y)) (hP : gB Rp Fr cl cd C S rt Q (k + 1) l (.int (Int64.toInt32 a) :: st) u c s) : gB Rp Fr cl cd C S rt Q k l (.long a :: st) u c s :=
  fun h0 h QQ hR hF hQ P hr => hr 10 k x y a l st h c s hg (hP h0 h QQ hR hF hQ P hr)
theorem g_lcmp {x y : Nat} {a b : Int64} (hg : aGet cd k = some (.lcmp, x, y)) (hP : gB Rp Fr cl cd C S rt Q (k + 1) l (.int (lg_cmp a b) :: st) u c s) : gB Rp Fr cl cd C S rt Q k l (.long b :: .long a :: st) u c s :=
  fun h0 h QQ hR hF hQ P hr => hr 11 k x y a b l st h c s hg (hP h0 h QQ hR hF hQ P hr)
theorem g_iinc {j : Nat} {n : Int} {x y : Nat} {a : Int32} (v : Int32) (l' : aL) (hg : aGet cd k = some (.iinc j n, x, y)) (hj : l[j]? = some (some (.int a))) (hv : a + Int32.ofInt n = v) (hl : l.set j (some (.int v)) = l') (hP : gB Rp Fr cl cd C S rt Q (k + 1) l' st u c s) : gB Rp Fr cl cd C S rt Q k l st u c s :=
  fun h0 h QQ hR hF hQ P hr => hr 12 k j n x y a l st h c s hg hj (by rw [hv, hl]; exact hP h0 h QQ hR hF hQ P hr)
theorem g_dup {x y : Nat} {v : Value} (hg : aGet cd k = some (.dup, x, y)) (hv : v.category = 1) (hP : gB Rp Fr cl cd C S rt Q (k + 1) l (v :: v :: st) u c s) : gB Rp Fr cl cd C S rt Q k l (v :: st) u c s :=
  fun h0 h QQ hR hF hQ P hr => hr 13 k x y v l st h c s hg hv (hP h0 h QQ hR hF hQ P hr)
theorem g_pop {x y : Nat} {v : Value} (hg : aGet cd k = some (.pop, x, y)) (hv : v.category = 1) (hP : gB Rp Fr cl cd C S rt Q (k + 1) l st u c s) : gB Rp Fr cl cd C S rt Q k l (v :: st) u c s :=
  fun h0 h QQ hR hF hQ P hr => hr 14 k x y v l st h c s hg hv (hP h0 h QQ hR hF hQ P hr)
theorem g_dup2 {x y : Nat} {v w : Value} (hg : aGet cd k = some (.dup2, x, y)) (hv : v.category = 1) (hw : w.category = 1) (hP : gB Rp Fr cl cd C S rt Q (k + 1) l (v :: w :: v :: w :: st) u c s) : gB Rp Fr cl cd C S rt Q k l (v :: w :: st) u c s :=
  fun h0 h QQ hR hF hQ P hr => hr 15 k x y v w l st h c s hg hv hw (hP h0 h QQ hR hF hQ P hr)
theorem g_dup_x1 {x y : Nat} {v w : Value} (hg : aGet cd k = some (.dup_x1, x, y)) (hv : v.category = 1) (hw : w.category = 1) (hP : gB Rp Fr cl cd C S rt Q (k + 1) l (v :: w :: v :: st) u c s) : gB Rp Fr cl cd C S rt Q k l (v :: w :: st) u c s :=
  fun h0 h QQ hR hF hQ P hr => hr 16 k x y v w l st h c s hg hv hw (hP h0 h QQ hR hF hQ P hr)
theorem g_if_eq {off : Int} {x y : Nat} {a : Int32} (hg : aGet cd k = some (.ifCond .eq off, x, y)) (hT : a = 0 → gB Rp Fr cl cd C S rt Q x l st u c s) (hN : ¬ a = 0 → gB Rp Fr cl cd C S rt Q (k + 1) l st u c s) : gB Rp Fr cl cd C S rt Q k l (.int a :: st) u c s :=
  fun h0 h QQ hR hF hQ P hr => hr 17 k _ off x y a l st h c s hg (fun q => hT q h0 h QQ hR hF hQ P hr) (fun q => hN q h0 h QQ hR hF hQ P hr)
theorem g_icmp_eq {off : Int} {x y : Nat} {a b : Int32} (hg : aGet cd k = some (.if_icmp .eq off, x, y)) (hT : a = b → gB Rp Fr cl cd C S rt Q x l st u c s) (hN : ¬ a = b → gB Rp Fr cl cd C S rt Q (k + 1) l st u c s) : gB Rp Fr cl cd C S rt Q k l (.int b :: .int a :: st) u c s :=
  fun h0 h QQ hR hF hQ P hr => hr 18 k _ off x y a b l st h c s hg (fun q => hT q h0 h QQ hR hF hQ P hr) (fun q => hN q h0 h QQ hR hF hQ P hr)
theorem g_if_ne {off : Int} {x y : Nat} {a : Int32} (hg : aGet cd k = some (.ifCond .ne off, x, y)) (hT : ¬ a = 0 → gB Rp Fr cl cd C S rt Q x l st u c s) (hN : a = 0 → gB Rp Fr cl cd C S rt Q (k + 1) l st u c s) : gB Rp Fr cl cd C S rt Q k l (.int a :: st) u c s :=
  fun h0 h QQ hR hF hQ P hr => hr 17 k _ off x y a l st h c s hg (fun q => hT q h0 h QQ hR hF hQ P hr) (fun q => hN (Decidable.of_not_not q) h0 h QQ hR hF hQ P hr)
theorem g_icmp_ne {off : Int} {x y : Nat} {a b : Int32} (hg : aGet cd k = some (.if_icmp .ne off, x, y)) (hT : ¬ a = b → gB Rp Fr cl cd C S rt Q x l st u c s) (hN : a = b → gB Rp Fr cl cd C S rt Q (k + 1) l st u c s) : gB Rp Fr cl cd C S rt Q k l (.int b :: .int a :: st) u c s :=
  fun h0 h QQ hR hF hQ P hr => hr 18 k _ off x y a b l st h c s hg (fun q => hT q h0 h QQ hR hF hQ P hr) (fun q => hN (Decidable.of_not_not q) h0 h QQ hR hF hQ P hr)
theorem g_if_lt {off : Int} {x y : Nat} {a : Int32} (hg : aGet cd k = some (.ifCond .lt off, x, y)) (hT : a < 0 → gB Rp Fr cl cd C S rt Q x l st u c s) (hN : ¬ a < 0 → gB Rp Fr cl cd C S rt Q (k + 1) l st u c s) : gB Rp Fr cl cd C S rt Q k l (.int a :: st) u c s :=
  fun h0 h QQ hR hF hQ P hr => hr 17 k _ off x y a l st h c s hg (fun q => hT q h0 h QQ hR hF hQ P hr) (fun q => hN q h0 h QQ hR hF hQ P hr)
theorem g_icmp_lt {off : Int} {x y : Nat} {a b : Int32} (hg : aGet cd k = some (.if_icmp .lt off, x, y)) (hT : a < b → gB Rp Fr cl cd C S rt Q x l st u c s) (hN : ¬ a < b → gB Rp Fr cl cd C S rt Q (k + 1) l st u c s) : gB Rp Fr cl cd C S rt Q k l (.int b :: .int a :: st) u c s :=
  fun h0 h QQ hR hF hQ P hr => hr 18 k _ off x y a b l st h c s hg (fun q => hT q h0 h QQ hR hF hQ P hr) (fun q => hN q h0 h QQ hR hF hQ P hr)
theorem g_if_ge {off : Int} {x y : Nat} {a : Int32} (hg : aGet cd k = some (.ifCond .ge off, x, y)) (hT : 0 ≤ a → gB Rp Fr cl cd C S rt Q x l st u c s) (hN : ¬ 0 ≤ a → gB Rp Fr cl cd C S rt Q (k + 1) l st u c s) : gB Rp Fr cl cd C S rt Q k l (.int a :: st) u c s :=
  fun h0 h QQ hR hF hQ P hr => hr 17 k _ off x y a l st h c s hg (fun q => hT q h0 h QQ hR hF hQ P hr) (fun q => hN q h0 h QQ hR hF hQ P hr)
theorem g_icmp_ge {off : Int} {x y : Nat} {a b : Int32} (hg : aGet cd k = some (.if_icmp .ge off, x, y)) (hT : b ≤ a → gB Rp Fr cl cd C S rt Q x l st u c s) (hN : ¬ b ≤ a → gB Rp Fr cl cd C S rt Q (k + 1) l st u c s) : gB Rp Fr cl cd C S rt Q k l (.int b :: .int a :: st) u c s :=
  fun h0 h QQ hR hF hQ P hr => hr 18 k _ off x y a b l st h c s hg (fun q => hT q h0 h QQ hR hF hQ P hr) (fun q => hN q h0 h QQ hR hF hQ P hr)
theorem g_if_gt {off : Int} {x y : Nat} {a : Int32} (hg : aGet cd k = some (.ifCond .gt off, x, y)) (hT : 0 < a → gB Rp Fr cl cd C S rt Q x l st u c s) (hN : ¬ 0 < a → gB Rp Fr cl cd C S rt Q (k + 1) l st u c s) : gB Rp Fr cl cd C S rt Q k l (.int a :: st) u c s :=
  fun h0 h QQ hR hF hQ P hr => hr 17 k _ off x y a l st h c s hg (fun q => hT q h0 h QQ hR hF hQ P hr) (fun q => hN q h0 h QQ hR hF hQ P hr)
theorem g_icmp_gt {off : Int} {x y : Nat} {a b : Int32} (hg : aGet cd k = some (.if_icmp .gt off, x, y)) (hT : b < a → gB Rp Fr cl cd C S rt Q x l st u c s) (hN : ¬ b < a → gB Rp Fr cl cd C S rt Q (k + 1) l st u c s) : gB Rp Fr cl cd C S rt Q k l (.int b :: .int a :: st) u c s :=
  fun h0 h QQ hR hF hQ P hr => hr 18 k _ off x y a b l st h c s hg (fun q => hT q h0 h QQ hR hF hQ P hr) (fun q => hN q h0 h QQ hR hF hQ P hr)
theorem g_if_le {off : Int} {x y : Nat} {a : Int32} (hg : aGet cd k = some (.ifCond .le off, x, y)) (hT : a ≤ 0 → gB Rp Fr cl cd C S rt Q x l st u c s) (hN : ¬ a ≤ 0 → gB Rp Fr cl cd C S rt Q (k + 1) l st u c s) : gB Rp Fr cl cd C S rt Q k l (.int a :: st) u c s :=
  fun h0 h QQ hR hF hQ P hr => hr 17 k _ off x y a l st h c s hg (fun q => hT q h0 h QQ hR hF hQ P hr) (fun q => hN q h0 h QQ hR hF hQ P hr)
theorem g_icmp_le {off : Int} {x y : Nat} {a b : Int32} (hg : aGet cd k = some (.if_icmp .le off, x, y)) (hT : a ≤ b → gB Rp Fr cl cd C S rt Q x l st u c s) (hN : ¬ a ≤ b → gB Rp Fr cl cd C S rt Q (k + 1) l st u c s) : gB Rp Fr cl cd C S rt Q k l (.int b :: .int a :: st) u c s :=
  fun h0 h QQ hR hF hQ P hr => hr 18 k _ off x y a b l st h c s hg (fun q => hT q h0 h QQ hR hF hQ P hr) (fun q => hN q h0 h QQ hR hF hQ P hr)
theorem g_goto {off : Int} {x y : Nat} (hg : aGet cd k = some (.goto off, x, y)) (hP : gB Rp Fr cl cd C S rt Q x l st u c s) : gB Rp Fr cl cd C S rt Q k l st u c s :=
  fun h0 h QQ hR hF hQ P hr => hr 19 k off x y l st h c s hg (hP h0 h QQ hR hF hQ P hr)
theorem g_ifnull_r {off : Int} {x y a : Nat} (hg : aGet cd k = some (.ifnull off, x, y)) (hP : gB Rp Fr cl cd C S rt Q (k + 1) l st u c s) : gB Rp Fr cl cd C S rt Q k l (.ref a :: st) u c s :=
  fun h0 h QQ hR hF hQ P hr => hr 20 k off x y a l st h c s hg (hP h0 h QQ hR hF hQ P hr)
theorem g_ifnull_n {off : Int} {x y : Nat} (hg : aGet cd k = some (.ifnull off, x, y)) (hP : gB Rp Fr cl cd C S rt Q x l st u c s) : gB Rp Fr cl cd C S rt Q k l (.null :: st) u c s :=
  fun h0 h QQ hR hF hQ P hr => hr 21 k off x y l st h c s hg (hP h0 h QQ hR hF hQ P hr)
theorem g_ifnonnull_r {off : Int} {x y a : Nat} (hg : aGet cd k = some (.ifnonnull off, x, y)) (hP : gB Rp Fr cl cd C S rt Q x l st u c s) : gB Rp Fr cl cd C S rt Q k l (.ref a :: st) u c s :=
  fun h0 h QQ hR hF hQ P hr => hr 22 k off x y a l st h c s hg (hP h0 h QQ hR hF hQ P hr)
theorem g_ifnonnull_n {off : Int} {x y : Nat} (hg : aGet cd k = some (.ifnonnull off, x, y)) (hP : gB Rp Fr cl cd C S rt Q (k + 1) l st u c s) : gB Rp Fr cl cd C S rt Q k l (.null :: st) u c s :=
  fun h0 h QQ hR hF hQ P hr => hr 23 k off x y l st h c s hg (hP h0 h QQ hR hF hQ P hr)
theorem g_tabOut {d lo hi : Int} {offs : Array Int} {x y : Nat} {a : Int32} (t : Nat) (hg : aGet cd k = some (.tableswitch d lo hi offs, x, y)) (h1 : a.toInt < lo ∨ hi < a.toInt) (ht : (aPc cd k : Int) + d = (aPc cd t : Int)) (hP : gB Rp Fr cl cd C S rt Q t l st u c s) : gB Rp Fr cl cd C S rt Q k l (.int a :: st) u c s :=
  fun h0 h QQ hR hF hQ P hr => hr 24 k d lo hi offs x y a t l st h c s hg h1 ht (hP h0 h QQ hR hF hQ P hr)
theorem g_tabIn {d lo hi : Int} {offs : Array Int} {x y : Nat} {a : Int32} (o : Int) (t : Nat) (hg : aGet cd k = some (.tableswitch d lo hi offs, x, y)) (h1 : ¬ a.toInt < lo) (h2 : ¬ hi < a.toInt) (ho : offs[(a.toInt - lo).toNat]? = some o) (ht : (aPc cd k : Int) + o = (aPc cd t : Int)) (hP : gB Rp Fr cl cd C S rt Q t l st u c s) : gB Rp Fr cl cd C S rt Q k l (.int a :: st) u c s :=
  fun h0 h QQ hR hF hQ P hr => hr 25 k d lo hi offs x y a o t l st h c s hg h1 h2 ho ht (hP h0 h QQ hR hF hQ P hr)
theorem g_ldc {i : Instr} {x : Nat} (v : Int32) (hg : aGet cd k = some (i, x, 0)) (hi : ∃ j, i = .ldc j ∨ i = .ldc_w j) (hv : Int32.ofNat x = v) (hP : gB Rp Fr cl cd C S rt Q (k + 1) l (.int v :: st) u c s) : gB Rp Fr cl cd C S rt Q k l st u c s :=
  fun h0 h QQ hR hF hQ P hr => hr 42 k _ x 0 l st h c s hg hi (by rw [if_pos rfl, hv]; exact hP h0 h QQ hR hF hQ P hr)
theorem g_ldc2 {j x y : Nat} (v : Int64) (hg : aGet cd k = some (.ldc2_w j, x, y)) (hv : Int64.ofNat x = v) (hP : gB Rp Fr cl cd C S rt Q (k + 1) l (.long v :: st) u c s) : gB Rp Fr cl cd C S rt Q k l st u c s :=
  fun h0 h QQ hR hF hQ P hr => hr 43 k j x y l st h c s hg (by rw [hv]; exact hP h0 h QQ hR hF hQ P hr)
theorem g_static {j x n : Nat} (as : List Value) (mc ms : Nat) (hft : ∀ a b d, Fr a b → Fr b d → Fr a d) (hg : aGet cd k = some (.invokestatic j, x, n)) (hn : as.length = n) (hst : as.reverse ++ st = sk) (hcat : aCat st ≤ 8) (hc : c + mc ≤ C) (hs : s + ms ≤ S) (hC : gR Rp Fr cl x as u mc ms (fun r u' => gB Rp Fr cl cd C S rt Q (k + 1) l (r.toList ++ st) u' (c + mc) (s + ms))) : gB Rp Fr cl cd C S rt Q k l sk u c s :=
  fun h0 h QQ hR hF hQ P hr => hst ▸ hr 44 k _ x n as st mc ms l h c s hg ⟨j, rfl⟩ hn hcat hc hs (hC h _ hR (fun r h' u' hR' hF' hB => hB h0 h' QQ hR' (hft h0 h h' hF hF') hQ P hr))
theorem g_special {j x n a : Nat} (as : List Value) (mc ms : Nat) (hft : ∀ a b d, Fr a b → Fr b d → Fr a d) (hg : aGet cd k = some (.invokespecial j, x, n)) (hx : x < 1000) (hn16 : n < 16) (hn : as.length = n) (hst : as.reverse ++ .ref a :: st = sk) (hcat : aCat st ≤ 8) (hc : c + mc ≤ C) (hs : s + ms ≤ S) (hC : gR Rp Fr cl x (.ref a :: as) u mc ms (fun r u' => gB Rp Fr cl cd C S rt Q (k + 1) l (r.toList ++ st) u' (c + mc) (s + ms))) : gB Rp Fr cl cd C S rt Q k l sk u c s :=
  fun h0 h QQ hR hF hQ P hr => hst ▸ hr 46 k _ x n a as st mc ms l h c s hg ⟨j, rfl⟩ hx hn16 hn hcat hc hs (hC h _ hR (fun r h' u' hR' hF' hB => hB h0 h' QQ hR' (hft h0 h h' hF hF') hQ P hr))
theorem g_virtual {j x n a ci y : Nat} (as : List Value) (mc ms : Nat) (hft : ∀ a b d, Fr a b → Fr b d → Fr a d) (hg : aGet cd k = some (.invokevirtual j, x, y)) (hy : y = n + 16 * ci) (hn16 : n < 16) (hn : as.length = n) (hob : ∀ h, Rp u h → 16 ≤ a ∧ a < h.2 ∧ ∃ fs, h.1 a = .inr (ci, fs)) (hst : as.reverse ++ .ref a :: st = sk) (hcat : aCat st ≤ 8) (hc : c + mc ≤ C) (hs : s + ms ≤ S) (hC : gR Rp Fr cl x (.ref a :: as) u mc ms (fun r u' => gB Rp Fr cl cd C S rt Q (k + 1) l (r.toList ++ st) u' (c + mc) (s + ms))) : gB Rp Fr cl cd C S rt Q k l sk u c s := by
  intro h0 h QQ hR hF hQ P hr
  obtain ⟨b1, b2, fs, b3⟩ := hob h hR
  subst hy
  exact hst ▸ hr 45 k _ x n a as st mc ms ci fs l h c s hg ⟨j, rfl⟩ hn16 hn b1 b2 b3 hcat hc hs (hC h _ hR (fun r h' u' hR' hF' hB => hB h0 h' QQ hR' (hft h0 h h' hF hF') hQ P hr))
theorem g_objInit {j n a : Nat} (hg : aGet cd k = some (.invokespecial j, 1000, n)) (hcat : aCat st ≤ 8) (hP : gB Rp Fr cl cd C S rt Q (k + 1) l st u c s) : gB Rp Fr cl cd C S rt Q k l (.ref a :: st) u c s :=
  fun h0 h QQ hR hF hQ P hr => hr 47 k j n a st l h c s hg hcat (hP h0 h QQ hR hF hQ P hr)
theorem g_ret {x y : Nat} (hg : aGet cd k = some (.return_, x, y)) (hrt : rt = none) (hc : c ≤ C) (hs : s ≤ S) (hQ : Q none u) : gB Rp Fr cl cd C S rt Q k l [] u c s :=
  fun h0 h QQ hR hF hQQ P hr => hr 48 k x y l h c s hg hrt hc hs (hQQ none h u hR hF hQ)
theorem g_vret {i : Instr} {x y : Nat} {v : Value} (hg : aGet cd k = some (i, x, y)) (hk : kRet i v) (hrt : aRT rt (some v)) (hc : c ≤ C) (hs : s ≤ S) (hQ : Q (some v) u) : gB Rp Fr cl cd C S rt Q k l [v] u c s :=
  fun h0 h QQ hR hF hQQ P hr => hr 49 k i x y v l h c s hg hk hrt hc hs (hQQ (some v) h u hR hF hQ)
theorem g_cast {k' : Nat} {l' : aL} {st' : List Value} (h1 : k = k') (h2 : l = l') (h3 : st = st') (hP : gB Rp Fr cl cd C S rt Q k' l' st' u c s) : gB Rp Fr cl cd C S rt Q k l st u c s := by subst h1; subst h2; subst h3; exact hP
theorem g_virtI {j x n a ci y : Nat} (as : List Value) (hft : ∀ a b d, Fr a b → Fr b d → Fr a d) (hg : aGet cd k = some (.invokevirtual j, x, y)) (hy : y = n + 16 * ci) (hn16 : n < 16) (hn : as.length = n) (hob : ∀ h, Rp u h → 16 ≤ a ∧ a < h.2 ∧ ∃ fs, h.1 a = .inr (ci, fs)) (hst : as.reverse ++ .ref a :: st = sk) (hcat : aCat st ≤ 8) (hc : c ≤ C) (hs : s ≤ S) (hC : gR Rp Fr cl x (.ref a :: as) u 0 0 (fun r u' => ∃ v, r = some v ∧ gB Rp Fr cl cd C S rt Q (k + 1) l (v :: st) u' c s)) : gB Rp Fr cl cd C S rt Q k l sk u c s := by
  intro h0 h QQ hR hF hQ P hr
  obtain ⟨b1, b2, fs, b3⟩ := hob h hR
  subst hy
  refine hst ▸ hr 45 k _ x n a as st 0 0 ci fs l h c s hg ⟨j, rfl⟩ hn16 hn b1 b2 b3 hcat hc hs (hC h _ hR (fun r h' u' hR' hF' hB => ?_))
  obtain ⟨v, rfl, hB⟩ := hB
  exact hB h0 h' QQ hR' (hft h0 h h' hF hF') hQ P hr
theorem g_statI {j x n : Nat} (as : List Value) (hft : ∀ a b d, Fr a b → Fr b d → Fr a d) (hg : aGet cd k = some (.invokestatic j, x, n)) (hn : as.length = n) (hst : as.reverse ++ st = sk) (hcat : aCat st ≤ 8) (hc : c ≤ C) (hs : s ≤ S) (hC : gR Rp Fr cl x as u 0 0 (fun r u' => ∃ v, r = some v ∧ gB Rp Fr cl cd C S rt Q (k + 1) l (v :: st) u' c s)) : gB Rp Fr cl cd C S rt Q k l sk u c s := by
  intro h0 h QQ hR hF hQ P hr
  refine hst ▸ hr 44 k _ x n as st 0 0 l h c s hg ⟨j, rfl⟩ hn hcat hc hs (hC h _ hR (fun r h' u' hR' hF' hB => ?_))
  obtain ⟨v, rfl, hB⟩ := hB
  exact hB h0 h' QQ hR' (hft h0 h h' hF hF') hQ P hr
theorem g_virtV {j x n a ci y : Nat} (as : List Value) (hft : ∀ a b d, Fr a b → Fr b d → Fr a d) (hg : aGet cd k = some (.invokevirtual j, x, y)) (hy : y = n + 16 * ci) (hn16 : n < 16) (hn : as.length = n) (hob : ∀ h, Rp u h → 16 ≤ a ∧ a < h.2 ∧ ∃ fs, h.1 a = .inr (ci, fs)) (hst : as.reverse ++ .ref a :: st = sk) (hcat : aCat st ≤ 8) (hc : c ≤ C) (hs : s ≤ S) (hC : gR Rp Fr cl x (.ref a :: as) u 0 0 (fun r u' => r = none ∧ gB Rp Fr cl cd C S rt Q (k + 1) l st u' c s)) : gB Rp Fr cl cd C S rt Q k l sk u c s := by
  intro h0 h QQ hR hF hQ P hr
  obtain ⟨b1, b2, fs, b3⟩ := hob h hR
  subst hy
  refine hst ▸ hr 45 k _ x n a as st 0 0 ci fs l h c s hg ⟨j, rfl⟩ hn16 hn b1 b2 b3 hcat hc hs (hC h _ hR (fun r h' u' hR' hF' hB => ?_))
  obtain ⟨rfl, hB⟩ := hB
  exact hB h0 h' QQ hR' (hft h0 h h' hF hF') hQ P hr
theorem g_statV {j x n : Nat} (as : List Value) (hft : ∀ a b d, Fr a b → Fr b d → Fr a d) (hg : aGet cd k = some (.invokestatic j, x, n)) (hn : as.length = n) (hst : as.reverse ++ st = sk) (hcat : aCat st ≤ 8) (hc : c ≤ C) (hs : s ≤ S) (hC : gR Rp Fr cl x as u 0 0 (fun r u' => r = none ∧ gB Rp Fr cl cd C S rt Q (k + 1) l st u' c s)) : gB Rp Fr cl cd C S rt Q k l sk u c s := by
  intro h0 h QQ hR hF hQ P hr
  refine hst ▸ hr 44 k _ x n as st 0 0 l h c s hg ⟨j, rfl⟩ hn hcat hc hs (hC h _ hR (fun r h' u' hR' hF' hB => ?_))
  obtain ⟨rfl, hB⟩ := hB
  exact hB h0 h' QQ hR' (hft h0 h h' hF hF') hQ P hr
theorem g_gets0 {j a : Nat} (hg : aGet cd k = some (.getstatic j, a, 0)) (hP : gB Rp Fr cl cd C S rt Q (k + 1) l (.ref a :: st) u c s) : gB Rp Fr cl cd C S rt Q k l st u c s :=
  fun h0 h QQ hR hF hQ P hr => hr 41 k j a 0 l st h c s hg (by decide) (hP h0 h QQ hR hF hQ P hr)
theorem g_gets1 {j a : Nat} (v : Int32) (hg : aGet cd k = some (.getstatic j, a, 1)) (hv : Int32.ofNat a = v) (hP : gB Rp Fr cl cd C S rt Q (k + 1) l (.int v :: st) u c s) : gB Rp Fr cl cd C S rt Q k l st u c s :=
  fun h0 h QQ hR hF hQ P hr => hr 41 k j a 1 l st h c s hg (by decide) (by rw [if_neg (by decide), hv]; exact hP h0 h QQ hR hF hQ P hr)
theorem g_gets2 {j a : Nat} (hg : aGet cd k = some (.getstatic j, a, 2)) (hP : gB Rp Fr cl cd C S rt Q (k + 1) l (.null :: st) u c s) (hP2 : gB Rp Fr cl cd C S rt Q (k + 1) l (.ref a :: st) u c s) : gB Rp Fr cl cd C S rt Q k l st u c s :=
  fun h0 h QQ hR hF hQ P hr => hr 54 k j a l st h c s hg (hP h0 h QQ hR hF hQ P hr) (hP2 h0 h QQ hR hF hQ P hr)
theorem g_ldcS {i : Instr} {x : Nat} (hg : aGet cd k = some (i, x, 1)) (hi : ∃ j, i = .ldc j ∨ i = .ldc_w j) (hP : gB Rp Fr cl cd C S rt Q (k + 1) l (.ref x :: st) u c s) : gB Rp Fr cl cd C S rt Q k l st u c s :=
  fun h0 h QQ hR hF hQ P hr => hr 42 k _ x 1 l st h c s hg hi (by rw [if_neg (by decide)]; exact hP h0 h QQ hR hF hQ P hr)
/-- the constants of the heap -/
theorem g_getfC {j f a : Nat} {fs : List Value} {v : Value} (hg : aGet cd k = some (.getfield j, 9, f)) (ha : a < 16) (hc : ∀ h, Rp u h → h.1 a = .inr (9, fs)) (hv : fs[f]? = some v) (hP : gB Rp Fr cl cd C S rt Q (k + 1) l (v :: st) u c s) : gB Rp Fr cl cd C S rt Q k l (.ref a :: st) u c s :=
  fun h0 h QQ hR hF hQ P hr => hr 50 k j f a fs v l st h c s hg ha (hc h hR) hv (hP h0 h QQ hR hF hQ P hr)
theorem g_view {u' : σ} (hv : ∀ h, Rp u h → Rp u' h) (hP : gB Rp Fr cl cd C S rt Q k l st u' c s) : gB Rp Fr cl cd C S rt Q k l st u c s :=
  fun h0 h QQ hR hF hQ P hr => hP h0 h QQ (hv h hR) hF hQ P hr

theorem g_virtCI {j x n a y : Nat} {fs : List Value} (as : List Value) (hft : ∀ a b d, Fr a b → Fr b d → Fr a d) (hg : aGet cd k = some (.invokevirtual j, x, y)) (hy : y = n + 16 * 9) (hn16 : n < 16) (hn : as.length = n) (ha : a < 16) (hob : ∀ h, Rp u h → h.1 a = .inr (9, fs)) (hst : as.reverse ++ .ref a :: st = sk) (hcat : aCat st ≤ 8) (hc : c ≤ C) (hs : s ≤ S) (hC : gR Rp Fr cl x (.ref a :: as) u 0 0 (fun r u' => ∃ v, r = some v ∧ gB Rp Fr cl cd C S rt Q (k + 1) l (v :: st) u' c s)) : gB Rp Fr cl cd C S rt Q k l sk u c s := by
  intro h0 h QQ hR hF hQ P hr
  subst hy
  refine hst ▸ hr 51 k _ x n a as st 0 0 fs l h c s hg ⟨j, rfl⟩ hn16 hn ha (hob h hR) hcat hc hs (hC h _ hR (fun r h' u' hR' hF' hB => ?_))
  obtain ⟨v, rfl, hB⟩ := hB
  exact hB h0 h' QQ hR' (hft h0 h h' hF hF') hQ P hr
theorem g_superI {j x n a y : Nat} (as : List Value) (hft : ∀ a b d, Fr a b → Fr b d → Fr a d) (hg : aGet cd k = some (.invokespecial j, x, y)) (hy : y = n + 1000) (hx : x < 1000) (hn : as.length = n) (hob : ∀ h, Rp u h → 16 ≤ a ∧ a < h.2 ∧ ∃ fs, h.1 a = .inr (0, fs)) (hst : as.reverse ++ .ref a :: st = sk) (hcat : aCat st ≤ 8) (hc : c ≤ C) (hs : s ≤ S) (hC : gR Rp Fr cl x (.ref a :: as) u 0 0 (fun r u' => ∃ v, r = some v ∧ gB Rp Fr cl cd C S rt Q (k + 1) l (v :: st) u' c s)) : gB Rp Fr cl cd C S rt Q k l sk u c s := by
  intro h0 h QQ hR hF hQ P hr
  obtain ⟨b1, b2, fs, b3⟩ := hob h hR
  subst hy
  refine hst ▸ hr 52 k _ x n a as st 0 0 fs l h c s hg ⟨j, rfl⟩ hx hn b1 b2 b3 hcat hc hs (hC h _ hR (fun r h' u' hR' hF' hB => ?_))
  obtain ⟨v, rfl, hB⟩ := hB
  exact hB h0 h' QQ hR' (hft h0 h h' hF hF') hQ P hr
theorem g_virtCV {j x n a y : Nat} {fs : List Value} (as : List Value) (hft : ∀ a b d, Fr a b → Fr b d → Fr a d) (hg : aGet cd k = some (.invokevirtual j, x, y)) (hy : y = n + 16 * 9) (hn16 : n < 16) (hn : as.length = n) (ha : a < 16) (hob : ∀ h, Rp u h → h.1 a = .inr (9, fs)) (hst : as.reverse ++ .ref a :: st = sk) (hcat : aCat st ≤ 8) (hc : c ≤ C) (hs : s ≤ S) (hC : gR Rp Fr cl x (.ref a :: as) u 0 0 (fun r u' => r = none ∧ gB Rp Fr cl cd C S rt Q (k + 1) l st u' c s)) : gB Rp Fr cl cd C S rt Q k l sk u c s := by
  intro h0 h QQ hR hF hQ P hr
  subst hy
  refine hst ▸ hr 51 k _ x n a as st 0 0 fs l h c s hg ⟨j, rfl⟩ hn16 hn ha (hob h hR) hcat hc hs (hC h _ hR (fun r h' u' hR' hF' hB => ?_))
  obtain ⟨rfl, hB⟩ := hB
  exact hB h0 h' QQ hR' (hft h0 h h' hF hF') hQ P hr
theorem g_superV {j x n a y : Nat} (as : List Value) (hft : ∀ a b d, Fr a b → Fr b d → Fr a d) (hg : aGet cd k = some (.invokespecial j, x, y)) (hy : y = n + 1000) (hx : x < 1000) (hn : as.length = n) (hob : ∀ h, Rp u h → 16 ≤ a ∧ a < h.2 ∧ ∃ fs, h.1 a = .inr (0, fs)) (hst : as.reverse ++ .ref a :: st = sk) (hcat : aCat st ≤ 8) (hc : c ≤ C) (hs : s ≤ S) (hC : gR Rp Fr cl x (.ref a :: as) u 0 0 (fun r u' => r = none ∧ gB Rp Fr cl cd C S rt Q (k + 1) l st u' c s)) : gB Rp Fr cl cd C S rt Q k l sk u c s := by
  intro h0 h QQ hR hF hQ P hr
  obtain ⟨b1, b2, fs, b3⟩ := hob h hR
  subst hy
  refine hst ▸ hr 52 k _ x n a as st 0 0 fs l h c s hg ⟨j, rfl⟩ hx hn b1 b2 b3 hcat hc hs (hC h _ hR (fun r h' u' hR' hF' hB => ?_))
  obtain ⟨rfl, hB⟩ := hB
  exact hB h0 h' QQ hR' (hft h0 h h' hF hF') hQ P hr
end GB
/-- a method of the AM over an abstract state -/
theorem gR_of {σ : Type} {Rp : σ → aH → Prop} {Fr : aH → aH → Prop} {pq : Nat → Option aM} {pr : aC} {d j : Nat} {as : List Value} {u : σ} {mc ms : Nat} {Q : Option Value → σ → Prop} (mi : aM) (hfr : ∀ h, Fr h h) (hmi : pq j = some mi) (hl : (aArg as).length ≤ mi.2.2.2.1) (hB : gB Rp Fr (aRun pq pr d) mi.2.2.2.2.2.2 mc ms mi.2.2.2.2.1 Q 0 (aEnt mi.2.2.2.1 as) [] u 0 0) : gR Rp Fr (aRun pq pr (d + 1)) j as u mc ms Q := by
  intro h QQ hR hQ
  refine Or.inr ⟨mi, hmi, hl, fun P hr => hB h h QQ hR (hfr h) hQ P hr⟩
