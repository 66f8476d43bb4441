/-! every row of the code tables is what the bytes and the tables say -/
def clN (k : Nat) : String := match vwCl[k]? with
  | some q => q.1
  | none => bif Nat.beq k 96 then "java/lang/String" else ""
def clF (k i : Nat) : String × String × String × Bool := match vwCl[k]? with
  | some q => q.2.1 i
  | none => ("", "", "", false)
def clZ (k : Nat) : Nat := match vwCl[k]? with
  | some q => q.2.2
  | none => 0
def ownS (m : Nat) : String := (myY m).cls
def wrd (m x : Nat) : Option Jvm.Cond := tables_1[ixL (myO m) x]?
def nPar (m : Nat) : Option Nat := (parseMethodDescriptor (myY m).desc).map fun d => d.parameters.length
def fLnk (m x a b : Nat) : Bool := decide (wrd m x = some (.fieldLink (ownS m) x (clN a) (clF a b).2.1 (clF a b).2.2.1)) || decide (wrd m x = some (.fieldLinkNest (ownS m) x (clN a) (clF a b).2.1 (clF a b).2.2.1 "GriddleTurn"))
def mLnk (m x a : Nat) : Bool := decide (wrd m x = some (.methodLink (ownS m) x (myY a))) || decide (wrd m x = some (.methodLinkNest (ownS m) x (myY a) "GriddleTurn"))
def in32 (v : Int) : Bool := decide (-2147483648 ≤ v) && decide (v < 2147483648)
def in64 (v : Int) : Bool := decide (-9223372036854775808 ≤ v) && decide (v < 9223372036854775808)
def arN (a : Nat) : String := bif Nat.beq a 16 then "GriddleTurn$Hardness" else bif Nat.beq a 17 then "GriddleTurn$Lying" else bif Nat.beq a 18 then "GriddleTurn$Plate" else bif Nat.beq a 19 then "GriddleTurn$Tray" else ""
def strOk (m x : Nat) (v : Int) : Bool := decide ((ownS m, x, v) ∈ [("GriddleTurn$Reader", 172, (-10 : Int)), ("GriddleTurn$Reader", 180, -11), ("GriddleTurnModel", 105, -12), ("GriddleTurnModel", 143, -10)])
def iln (i : Instr) : Nat := match i with
  | .iload _ | .aload _ | .lload _ | .istore _ | .astore _ | .lstore _ | .bipush _ | .ldc _ | .newarray _ => 2
  | .sipush _ | .ldc_w _ | .ldc2_w _ | .getstatic _ | .iinc _ _ | .getfield _ | .putfield _ | .new _ | .anewarray _ | .goto _ | .ifCond _ _ | .if_icmp _ _ | .invokevirtual _ | .invokespecial _ | .invokestatic _ => 3
  | .tableswitch _ _ _ _ => 0
  | _ => 1
def eokX (m : Nat) (e : En) : Bool := match e with
  | (pc, i, a, b, c, v, np) => (Nat.beq (iln i) 0 || Nat.beq np (pc + iln i)) && match i with
    | .iconst n => decide (n = v) && Nat.beq b 0 && in32 v
    | .bipush n => decide (n = v) && Nat.beq b 0 && decide (-128 ≤ v) && decide (v < 128)
    | .sipush n => decide (n = v) && Nat.beq b 0 && decide (-32768 ≤ v) && decide (v < 32768)
    | .lconst n => decide (((n : Nat) : Int) = v) && Nat.beq b 1
    | .ldc x => (Nat.beq b 0 && in32 v && decide (wrd m x = some (.constant (ownS m) x (Int32.ofInt v)))) || (Nat.beq b 2 && strOk m x v)
    | .ldc_w x => Nat.beq b 0 && in32 v && decide (wrd m x = some (.constant (ownS m) x (Int32.ofInt v)))
    | .ldc2_w x => Nat.beq b 1 && in64 v && decide (wrd m x = some (.constantLong (ownS m) x (Int64.ofInt v)))
    | .getstatic x => (Nat.beq b 0 && decide (v = 1) && decide (wrd m x = some (.fieldLink (ownS m) x "java/lang/String" "COMPACT_STRINGS" "Z"))) || (Nat.beq b 2 && decide (v = -2) && decide (wrd m x = some (.fieldLink (ownS m) x "jdk/internal/util/Preconditions" "SIOOBE_FORMATTER" "Ljava/util/function/BiFunction;")))
    | .iload k => Nat.beq a k
    | .iload_n k => Nat.beq a k.val
    | .aload k => Nat.beq a k
    | .aload_n k => Nat.beq a k.val
    | .lload k => Nat.beq a k
    | .lload_n k => Nat.beq a k.val
    | .istore k => Nat.beq a k && Nat.blt a (myM m)
    | .istore_n k => Nat.beq a k.val && Nat.blt a (myM m)
    | .astore k => Nat.beq a k && Nat.blt a (myM m)
    | .astore_n k => Nat.beq a k.val && Nat.blt a (myM m)
    | .lstore k => Nat.beq a k && Nat.blt (a + 1) (myM m)
    | .lstore_n k => Nat.beq a k.val && Nat.blt (a + 1) (myM m)
    | .iinc k n => Nat.beq a k && decide (n = v) && Nat.blt a (myM m)
    | .getfield x => (Nat.beq a 96 && Nat.beq c 5 && decide (wrd m x = some (.fieldLink (ownS m) x "java/lang/String" "value" "[B"))) || (Nat.beq a 96 && Nat.beq c 6 && decide (wrd m x = some (.fieldLink (ownS m) x "java/lang/String" "coder" "B")))
        || (Nat.blt a 13 && Nat.blt b (clZ a) && decide (v = (b : Int)) && Nat.beq (FTc a b) c && fLnk m x a b)
    | .putfield x => Nat.blt a 13 && Nat.blt b (clZ a) && decide (v = (b : Int)) && Nat.beq (FTc a b) c && fLnk m x a b && (bif (clF a b).2.2.2 then decide ((myY m).name = "<init>") && decide (ownS m = clN a) && decide (wrd m x = some (.fieldLink (ownS m) x (clN a) (clF a b).2.1 (clF a b).2.2.1)) else true)
    | .new x => decide (wrd m x = some (.classLink (ownS m) x (clN a)))
    | .newarray t => match t with
      | .int => Nat.beq a 13
      | .long => Nat.beq a 14
      | .boolean => Nat.beq a 15
      | _ => false
    | .anewarray x => decide (wrd m x = some (.classLink (ownS m) x (arN a)))
    | .goto off => decide ((pc : Int) + off = (a : Int))
    | .ifCond _ off => decide ((pc : Int) + off = (a : Int))
    | .if_icmp _ off => decide ((pc : Int) + off = (a : Int))
    | .tableswitch df lo hi offs => decide (0 ≤ (pc : Int) + df) && offs.toList.all (fun o => decide (0 ≤ (pc : Int) + o)) && decide (hi - lo + 1 = (offs.size : Int)) && decide (lo ≤ hi)
    | .ireturn => (Nat.beq a 0 && decide (myR m = some .int)) || (Nat.beq a 1 && decide (myR m = some .boolean)) || (Nat.beq a 2 && decide (myR m = some .char)) || (Nat.beq a 3 && decide (myR m = some .byte))
    | .lreturn => decide (myR m = some .long)
    | .return_ => decide (myR m = none)
    | .invokevirtual x => !Nat.blt a 316 || (!isS a && decide (nPar a = some (b - 1)) && Nat.blt 0 b && decide (clN c = ownS a) && mLnk m x a && decide (¬ (myY a).name = "<init>"))
    | .invokespecial x => (Nat.beq a 1000 && Nat.beq b 1 && decide (wrd m x = some (.methodLink (ownS m) x Lib.objectInit))) || (!Nat.blt a 316 && !Nat.beq a 1000) || (Nat.blt a 316 && !isS a && decide (nPar a = some (b - 1)) && Nat.blt 0 b && mLnk m x a && decide ((myY a).name = "<init>") && decide (myR a = none))
    | .invokestatic x => (Nat.beq a 1001 && decide (wrd m x = some (.methodLink (ownS m) x arraycopyName))) || (!Nat.blt a 316 && !Nat.beq a 1001) || (Nat.blt a 316 && isS a && decide (nPar a = some b) && mLnk m x a)
    | _ => true
def eokD (m : Nat) (e : En) : Bool := Nat.blt e.1 e.2.2.2.2.2.2 && decide (decode (myB m) e.1 = .ok (e.2.1, e.2.2.2.2.2.2 - e.1))
def mokM (m : Nat) : Bool := decide (tables_1[ixN m]? = some (.initialized (ownS m))) && decide (ownS m ≠ "java/lang/invoke/MethodHandle") && decide (ownS m ≠ "java/lang/invoke/VarHandle")
  && (bif isS m then decide (tables_1[ixI m]? = some (.static (myY m))) else decide (tables_1[ixI m]? = some (.instanceMethod (myY m))) && (bif decide ((myY m).name = "<init>") then true else decide (lw_tbl[ixS m]? = some (.selects (ownS m) (myY m) (myY m)))))
  && Nat.ble (myM m) 41
