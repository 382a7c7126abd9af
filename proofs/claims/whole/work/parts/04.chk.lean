/-! ===== what a program checks of each instruction of the AM's code against the machine's bytes and tables ===== -/
/-- which method of AbstractStringBuilder's own a StringBuilder runs: words that follow from the tables' -/
def xsel : List Cond := [.selects RJ4 ⟨RJ5, "ensureCapacityInternal", "(I)V"⟩ ⟨RJ5, "ensureCapacityInternal", "(I)V"⟩, .selects RJ4 ⟨RJ5, "putStringAt", "(ILjava/lang/String;)V"⟩ ⟨RJ5, "putStringAt", "(ILjava/lang/String;)V"⟩, .selects RJ4 ⟨RJ5, "inflateIfNeededFor", "(Ljava/lang/String;)V"⟩ ⟨RJ5, "inflateIfNeededFor", "(Ljava/lang/String;)V"⟩]
def lw_good : List Cond := (xsel ++ lw_tbl).filter goodWord
theorem lw_good_in {w : Cond} (h : w ∈ lw_tbl) (g : goodWord w = true) : w ∈ lw_good := List.mem_filter.mpr ⟨List.mem_append_right _ h, g⟩
def inOk (c : Cond) : Bool := (decide (c ∈ xsel) || decide (c ∈ lw_tbl)) && goodWord c
theorem inOk_in {c : Cond} (h : inOk c = true) : c ∈ lw_good := by
  simp only [inOk, Bool.and_eq_true, Bool.or_eq_true, decide_eq_true_eq] at h
  rcases h with ⟨h | h, g⟩
  · exact List.mem_filter.mpr ⟨List.mem_append_left _ h, g⟩
  · exact lw_good_in h g
/-- statics: class, name, type, place or value, 0 a row of the constants, 1 a number, 2 a reference or null -/
def aSta : List (String × String × String × Nat × Nat) := [("BridgeClub$Scoring", "STEP_BOUNDS", "[I", 0, 0), ("BridgeClubModel", "STEP", "[I", 1, 0), ("java/lang/String", "COMPACT_STRINGS", "Z", 1, 1), ("java/lang/Integer", "DigitOnes", "[B", 2, 0), ("java/lang/Integer", "DigitTens", "[B", 3, 0), ("jdk/internal/util/Preconditions", "SIOOBE_FORMATTER", "Ljava/util/function/BiFunction;", 15, 2)]
/-- String constants: class, entry, text, place -/
def aStr : List (String × Nat × String × Nat) := [("BridgeClub$Result", 55, "pass", 4), ("BridgeClub$Result", 66, "CDHSN", 6), ("BridgeClub$Result", 75, "NESW", 8), ("BridgeClubModel", 248, "CDHSN", 10), ("BridgeClubModel", 256, "NESW", 12)]
theorem lw_good_all : ∀ w ∈ lw_good, w ∈ lw_good ∧ ((w.onTables && w.keeps) = true ∨ ∃ ty, w = .arrayClass ty) := by
  intro w hw
  exact ⟨hw, good_of_word (List.mem_filter.mp hw).2⟩
def wIs (w : Nat) (c : Cond) : Bool := decide (lw_tbl[w]? = some c) && goodWord c
theorem wIs_in {w : Nat} {c : Cond} (h : wIs w c = true) : c ∈ lw_good := by
  simp only [wIs, Bool.and_eq_true, decide_eq_true_eq] at h
  exact lw_good_in (List.mem_of_getElem? h.1) h.2
def kLen : Instr → Nat
  | .iload _ => 2 | .lload _ => 2 | .aload _ => 2 | .istore _ => 2 | .lstore _ => 2 | .astore _ => 2 | .bipush _ => 2 | .sipush _ => 3
  | .ldc _ => 2 | .ldc_w _ => 3 | .ldc2_w _ => 3 | .iinc _ _ => 3 | .ifCond _ _ => 3 | .if_icmp _ _ => 3 | .goto _ => 3 | .ifnull _ => 3 | .ifnonnull _ => 3
  | .getfield _ => 3 | .putfield _ => 3 | .getstatic _ => 3 | .invokestatic _ => 3 | .invokevirtual _ => 3 | .invokespecial _ => 3 | .new _ => 3 | .newarray _ => 2 | .anewarray _ => 3
  | _ => 1
def eSw : Instr → Bool
  | .tableswitch .. => true
  | _ => false
def eFall : Instr → Bool
  | .goto _ => false
  | .tableswitch .. => false
  | .return_ => false
  | .ireturn => false
  | .lreturn => false
  | .areturn => false
  | .athrow => false
  | .monitorenter => false
  | _ => true
/-- marks: a place that no run comes to, System.arraycopy -/
def eFk : Instr → Bool
  | .athrow => true
  | .monitorenter => true
  | _ => false
abbrev aM.own (mi : aM) : String := mi.1
abbrev aM.y (mi : aM) : MethodName := mi.2.1
abbrev aM.bs (mi : aM) : ByteArray := mi.2.2.1
abbrev aM.nL (mi : aM) : Nat := mi.2.2.2.1
abbrev aM.rt (mi : aM) : Option FieldType := mi.2.2.2.2.1
abbrev aM.sta (mi : aM) : Bool := mi.2.2.2.2.2.1
abbrev aM.cd (mi : aM) : List aE := mi.2.2.2.2.2.2
def aM.ini (mi : aM) : Bool := mi.2.1.name == "<init>"
def aNp (y : MethodName) : Option Nat := (parseMethodDescriptor y.desc).map (fun d => d.parameters.length)
def aNw : List Cond := [.methodLinkNest RX8 33 ⟨RX3, "<init>", "()V"⟩ RX8, .methodLinkNest RX8 104 ⟨RX7, "<init>", "()V"⟩ RX8, .methodLinkNest RX7 11 ⟨RX0, "<init>", "()V"⟩ RX8, .methodLinkNest RX7 20 ⟨RX4, "<init>", "()V"⟩ RX8]
/-- what a callee must be -/
def cChk (mj : aM) (n : Nat) : Bool := decide (aNp mj.y = some n) && decide (mj.y.cls ≠ "java/lang/invoke/MethodHandle") && decide (mj.y.cls ≠ "java/lang/invoke/VarHandle") && decide (mj.nL ≤ 30) && decide (mj.own = mj.y.cls)
def lChk (pg : Nat → Option aM) (mi : aM) (pc : Nat) (i : Instr) (x y w : Nat) : Bool := match i with
  | .getfield j => match aFT x y with
    | some q => wIs w (.fieldLink mi.own j q.1 q.2.1 q.2.2.1)
    | none => decide (x = 9) && (if y = 0 then wIs w (.fieldLink mi.own j RJ0 "value" "[B") else decide (y = 1) && wIs w (.fieldLink mi.own j RJ0 "coder" "B"))
  | .putfield j => match aFT x y with
    | some q => wIs w (.fieldLink mi.own j q.1 q.2.1 q.2.2.1) && (!q.2.2.2 || (mi.ini && decide (q.1 = mi.own)))
    | none => false
  | .ifCond _ off => decide ((pc : Int) + off = (aPc mi.cd x : Int))
  | .if_icmp _ off => decide ((pc : Int) + off = (aPc mi.cd x : Int))
  | .goto off => decide ((pc : Int) + off = (aPc mi.cd x : Int))
  | .ifnull off => decide ((pc : Int) + off = (aPc mi.cd x : Int))
  | .ifnonnull off => decide ((pc : Int) + off = (aPc mi.cd x : Int))
  | .ldc j => if y = 0 then wIs w (.constant mi.own j (Int32.ofNat x)) else aStr.any (fun q => decide (q.1 = mi.own ∧ q.2.1 = j ∧ q.2.2.2 = x))
  | .ldc_w j => if y = 0 then wIs w (.constant mi.own j (Int32.ofNat x)) else aStr.any (fun q => decide (q.1 = mi.own ∧ q.2.1 = j ∧ q.2.2.2 = x))
  | .ldc2_w j => wIs w (.constantLong mi.own j (Int64.ofNat x))
  | .new j => match aCls[x]? with
    | some q => wIs w (.classLink mi.own j q.1)
    | none => false
  | .newarray at' => decide (newarray.typeOf at' = aTy x) && decide (x < 4)
  | .anewarray j => match aTy x with
    | .object C => wIs w (.classLink mi.own j C) && decide (4 ≤ x) && decide (x < 7)
    | _ => false
  | .getstatic j => aSta.any (fun q => decide (q.2.2.2.1 = x ∧ q.2.2.2.2 = y) && wIs w (.fieldLink mi.own j q.1 q.2.1 q.2.2.1))
  | .invokestatic j => match pg x with
    | some mj => wIs w (.methodLink mi.own j mj.y) && cChk mj y && mj.sta && !mj.ini
    | none => false
  | .invokevirtual j => match pg x with
    | some mj => wIs w (.methodLink mi.own j mj.y) && cChk mj (y % 16) && !mj.sta && !mj.ini && (decide ((aCls[y / 16]?).map (fun q => q.1) = some mj.y.cls) || (decide (y / 16 = 9) && decide (mj.y.cls = RJ0)) || (decide (y / 16 = 0) && decide (mj.y.cls = RJ5) && inOk (.sameMethod RJ5 RJ5 mj.y.name mj.y.desc) && inOk (.selects RJ4 mj.y mj.y)))
    | none => false
  | .invokespecial j => if x = 1000 then wIs w (.methodLink mi.own j objectInit) else if 1000 ≤ y then (match pg x with
    | some mj => wIs w (.methodLink mi.own j mj.y) && cChk mj (y - 1000) && !mj.ini && !mj.sta && decide (mj.y.cls = RJ5) && decide (mi.own = RJ4) && inOk (.sameMethod RJ5 RJ5 mj.y.name mj.y.desc) && inOk (.superclass RJ4 RJ5)
    | none => false) else match pg x with
    | some mj => (if w < 10000 then wIs w (.methodLink mi.own j mj.y) else decide (.methodLinkNest mi.own j mj.y RX8 ∈ aNw)) && cChk mj y && mj.ini && decide (mj.rt = none) && !mj.sta
    | none => false
  | _ => true
def eChk (pg : Nat → Option aM) (mi : aM) (k : Nat) (e : aE) : Bool := match e with
  | (_, .athrow, _, _, _, _) => true
  | (pc, .monitorenter, _, x, _, w) => decide (decode mi.bs pc = .ok (.invokestatic x, 3)) && decide (aPc mi.cd (k + 1) = pc + 3) && wIs w (.methodLink mi.own x arraycopyName) && inOk (.native arraycopyName) && inOk (.static arraycopyName) && inOk (.initialized "java/lang/System")
  | (pc, i, len, x, y, w) => decide (decode mi.bs pc = .ok (i, len)) && (!(eFall i) || decide (aPc mi.cd (k + 1) = pc + len)) && (eSw i || decide (len = kLen i)) && lChk pg mi pc i x y w
/-- a method: its code word, what its kind asks for; every instruction -/
def mChk (pg : Nat → Option aM) (mi : aM) (w1 w2 w3 w4 : Nat) : Bool :=
  wIs w1 (.code mi.y mi.bs mi.nL mi.rt) && (if mi.sta then wIs w2 (.static mi.y) else wIs w2 (.instanceMethod mi.y)) && (mi.sta || mi.ini || decide (mi.y.cls = RJ5) || wIs w3 (.selects mi.y.cls mi.y mi.y)) && wIs w4 (.initialized mi.y.cls) && decide (aPc mi.cd 0 = 0) && plainFor mi.y && decide (mi.own = mi.y.cls) && (mi.cd.zipIdx.all fun q => eChk pg mi q.2 q.1)
