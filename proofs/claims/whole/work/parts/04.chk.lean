/-! ===== what a program checks of each instruction of the AM's code against the machine's bytes and tables ===== -/
def lw_good : List Cond := lw_tbl.filter goodWord
theorem lw_good_in {w : Cond} (h : w ∈ lw_tbl) (g : goodWord w = true) : w ∈ lw_good := List.mem_filter.mpr ⟨h, g⟩
theorem lw_good_all : ∀ w ∈ lw_good, w ∈ lw_good ∧ ((w.onTables && w.keeps) = true ∨ ∃ ty, w = .arrayClass ty) := by
  intro w hw
  exact ⟨hw, good_of_word (List.mem_filter.mp hw).2⟩
def wIs (w : Nat) (c : Cond) : Bool := decide (lw_tbl[w]? = some c) && goodWord c
theorem wIs_in {w : Nat} {c : Cond} (h : wIs w c = true) : c ∈ lw_good := by
  simp only [wIs, Bool.and_eq_true, decide_eq_true_eq] at h
  exact lw_good_in (List.mem_of_getElem? h.1) h.2
def kLen : Instr → Nat
  | .iload _ => 2 | .lload _ => 2 | .aload _ => 2 | .istore _ => 2 | .lstore _ => 2 | .astore _ => 2 | .bipush _ => 2 | .sipush _ => 3
  | .ldc _ => 2 | .ldc_w _ => 3 | .ldc2_w _ => 3 | .iinc _ _ => 3 | .ifCond _ _ => 3 | .if_icmp _ _ => 3 | .goto _ => 3 | .ifnull _ => 3 | .ifnonnull _ => 3
  | .getfield _ => 3 | .putfield _ => 3 | .getstatic _ => 3 | .invokestatic _ => 3 | .invokevirtual _ => 3 | .invokespecial _ => 3 | .new _ => 3 | .newarray _ => 2 | .anewarray _ => 3
  | _ => 1
def eSw : Instr → Bool
  | .tableswitch .. => true
  | _ => false
def eFall : Instr → Bool
  | .goto _ => false
  | .tableswitch .. => false
  | .return_ => false
  | .ireturn => false
  | .lreturn => false
  | .areturn => false
  | _ => true
abbrev aM.own (mi : aM) : String := mi.1
abbrev aM.y (mi : aM) : MethodName := mi.2.1
abbrev aM.bs (mi : aM) : ByteArray := mi.2.2.1
abbrev aM.nL (mi : aM) : Nat := mi.2.2.2.1
abbrev aM.rt (mi : aM) : Option FieldType := mi.2.2.2.2.1
abbrev aM.sta (mi : aM) : Bool := mi.2.2.2.2.2.1
abbrev aM.cd (mi : aM) : List aE := mi.2.2.2.2.2.2
def aM.ini (mi : aM) : Bool := mi.2.1.name == "<init>"
def aNp (y : MethodName) : Option Nat := (parseMethodDescriptor y.desc).map (fun d => d.parameters.length)
def aNw : List Cond := [.methodLinkNest RX8 33 ⟨RX3, "<init>", "()V"⟩ RX8, .methodLinkNest RX8 104 ⟨RX7, "<init>", "()V"⟩ RX8, .methodLinkNest RX7 11 ⟨RX0, "<init>", "()V"⟩ RX8, .methodLinkNest RX7 20 ⟨RX4, "<init>", "()V"⟩ RX8]
/-- what a callee must be -/
def cChk (mj : aM) (n : Nat) : Bool := decide (aNp mj.y = some n) && decide (mj.y.cls ≠ "java/lang/invoke/MethodHandle") && decide (mj.y.cls ≠ "java/lang/invoke/VarHandle") && decide (mj.nL ≤ 30) && decide (mj.own = mj.y.cls) && plainName mj.y.cls
def lChk (pg : Nat → Option aM) (mi : aM) (pc : Nat) (i : Instr) (x y w : Nat) : Bool := match i with
  | .getfield j => match aFT x y with
    | some q => wIs w (.fieldLink mi.own j q.1 q.2.1 q.2.2.1)
    | none => false
  | .putfield j => match aFT x y with
    | some q => wIs w (.fieldLink mi.own j q.1 q.2.1 q.2.2.1) && (!q.2.2.2 || (mi.ini && decide (q.1 = mi.own)))
    | none => false
  | .ifCond _ off => decide ((pc : Int) + off = (aPc mi.cd x : Int))
  | .if_icmp _ off => decide ((pc : Int) + off = (aPc mi.cd x : Int))
  | .goto off => decide ((pc : Int) + off = (aPc mi.cd x : Int))
  | .ifnull off => decide ((pc : Int) + off = (aPc mi.cd x : Int))
  | .ifnonnull off => decide ((pc : Int) + off = (aPc mi.cd x : Int))
  | .ldc j => decide (y = 0) && wIs w (.constant mi.own j (Int32.ofNat x))
  | .ldc_w j => decide (y = 0) && wIs w (.constant mi.own j (Int32.ofNat x))
  | .ldc2_w j => wIs w (.constantLong mi.own j (Int64.ofNat x))
  | .new j => match aCls[x]? with
    | some q => wIs w (.classLink mi.own j q.1)
    | none => false
  | .newarray at' => decide (newarray.typeOf at' = aTy x) && decide (x < 4)
  | .anewarray j => match aTy x with
    | .object C => wIs w (.classLink mi.own j C) && decide (4 ≤ x) && decide (x < 7)
    | _ => false
  | .getstatic _ => false
  | .invokestatic j => match pg x with
    | some mj => wIs w (.methodLink mi.own j mj.y) && cChk mj y && mj.sta && !mj.ini
    | none => false
  | .invokevirtual j => match pg x with
    | some mj => wIs w (.methodLink mi.own j mj.y) && cChk mj (y % 16) && !mj.sta && !mj.ini && decide ((aCls[y / 16]?).map (fun q => q.1) = some mj.y.cls)
    | none => false
  | .invokespecial j => if x = 1000 then wIs w (.methodLink mi.own j objectInit) else match pg x with
    | some mj => (if w < 10000 then wIs w (.methodLink mi.own j mj.y) else decide (.methodLinkNest mi.own j mj.y RX8 ∈ aNw)) && cChk mj y && mj.ini && decide (mj.rt = none) && !mj.sta
    | none => false
  | _ => true
def eChk (pg : Nat → Option aM) (mi : aM) (k : Nat) (e : aE) : Bool := match e with
  | (pc, i, len, x, y, w) => decide (decode mi.bs pc = .ok (i, len)) && (!(eFall i) || decide (aPc mi.cd (k + 1) = pc + len)) && (eSw i || decide (len = kLen i)) && lChk pg mi pc i x y w
/-- a method: its code word, what its kind asks for; every instruction -/
def mChk (pg : Nat → Option aM) (mi : aM) (w1 w2 w3 w4 : Nat) : Bool :=
  wIs w1 (.code mi.y mi.bs mi.nL mi.rt) && (if mi.sta then wIs w2 (.static mi.y) else wIs w2 (.instanceMethod mi.y)) && (mi.sta || mi.ini || wIs w3 (.selects mi.y.cls mi.y mi.y)) && wIs w4 (.initialized mi.y.cls) && decide (aPc mi.cd 0 = 0) && plainName mi.y.cls && decide (mi.own = mi.y.cls) && (mi.cd.zipIdx.all fun q => eChk pg mi q.2 q.1)
