/-! ONE STEP of the small machine, as what must hold before it -/
def SHk (j : Int) : Nat := match j with
  | .ofNat m => SHn m
  | .negSucc 0 => 98
  | .negSucc 1 => 94
  | .negSucc 9 | .negSucc 10 | .negSucc 11 => 96
  | .negSucc 19 | .negSucc 20 | .negSucc 21 => 95
  | .negSucc _ => 97
def SHl (j : Int) : Int := match j with
  | .ofNat m => Int.ofNat (SHm m)
  | .negSucc _ => 0
def shl32 (x y : Int) : Int := (Int32.ofInt x <<< (Int32.ofInt y &&& 31)).toInt
def shr32 (x y : Int) : Int := (Int32.ofInt x >>> (Int32.ofInt y &&& 31)).toInt
def ush32 (x y : Int) : Int := ((Int32.ofInt x).toUInt32 >>> ((Int32.ofInt y).toUInt32 &&& Int32.toUInt32 31)).toInt32.toInt
def shl64 (x y : Int) : Int := (Int64.ofInt x <<< ((Int32.ofInt y).toInt64 &&& 63)).toInt
def shr64 (x y : Int) : Int := (Int64.ofInt x >>> ((Int32.ofInt y).toInt64 &&& 63)).toInt
def div32 (x y : Int) : Int := (Int32.ofInt x / Int32.ofInt y).toInt
def rem32 (x y : Int) : Int := (Int32.ofInt x - Int32.ofInt x / Int32.ofInt y * Int32.ofInt y).toInt
def div64 (x y : Int) : Int := (Int64.ofInt x / Int64.ofInt y).toInt
def rem64 (x y : Int) : Int := (Int64.ofInt x - Int64.ofInt x / Int64.ofInt y * Int64.ofInt y).toInt
def cut8 (x : Int) : Int := (Int32.ofInt x).toInt8.toInt32.toInt
def cut16 (x : Int) : Int := (Int32.ofInt x).toInt16.toInt32.toInt
def cutC (x : Int) : Int := ((Int32.ofInt x).toUInt32 % 65536).toInt32.toInt
def and32 (x y : Int) : Int := (Int32.ofInt x &&& Int32.ofInt y).toInt
def ior32 (x y : Int) : Int := (Int32.ofInt x ||| Int32.ofInt y).toInt
def xor32 (x y : Int) : Int := (Int32.ofInt x ^^^ Int32.ofInt y).toInt
def and64 (x y : Int) : Int := (Int64.ofInt x &&& Int64.ofInt y).toInt
def ior64 (x y : Int) : Int := (Int64.ofInt x ||| Int64.ofInt y).toInt
def cmp64 (x y : Int) : Int := if y < x then 1 else if x = y then 0 else -1
def txt (j : Int) : List Int := match j with
  | .negSucc 9 | .negSucc 19 => tx0
  | .negSucc 10 | .negSucc 20 => tx1
  | .negSucc 11 | .negSucc 21 => tx2
  | _ => []
def cpy2 (M : Mm) (s sp d dp n : Int) : Mm := fun a b => if a = d ∧ dp ≤ b ∧ b < dp + n then M s (sp + (b - dp)) else M a b
/-- a value of tag t -/
def tg (t : Nat) (w : MV) (k : Int → Prop) : Prop := match w with
  | (u, x) => bif Nat.beq u t then k x else False
def st1 (t : Nat) (st : List MV) (k : Int → List MV → Prop) : Prop := match st with
  | (u, x) :: r => bif Nat.beq u t then k x r else False
  | [] => False
/-- a value of one word, whichever -/
def stw (st : List MV) (k : MV → List MV → Prop) : Prop := match st with
  | (u, x) :: r => bif Nat.beq u 1 then False else k (u, x) r
  | [] => False
def st0 (st : List MV) (P : Prop) : Prop := match st with
  | [] => P
  | _ :: _ => False
def b2 (t : Nat) (st : List MV) (k : Int → Int → List MV → Prop) : Prop := st1 t st fun y r => st1 t r fun x r => k x y r
def gd (b : Bool) (P : Prop) : Prop := bif b then P else False
def br (c A B : Prop) : Prop := (c → A) ∧ (¬ c → B)
def swt (x : Int) (d : Prop) (k : Int → Prop) : Int → List Int → Prop
  | _, [] => d
  | i, o :: r => (x = i → k o) ∧ (¬ x = i → swt x d k (i + 1) r)
def popA : Nat → List MV → List MV → (List MV → List MV → Prop) → Prop
  | 0, st, acc, k => k acc st
  | n + 1, v :: st, acc, k => popA n st (v :: acc) k
  | _ + 1, [], _, _ => False
def isK (as : List MV) (c : Nat) : Bool := match as with
  | (t, j) :: _ => Nat.beq t 2 && Nat.beq (SHk j) c
  | [] => false
def isCell (j x : Int) : Bool := bif Nat.beq (SHk j) 16 then Nat.beq (SHk x) 2 else bif Nat.beq (SHk j) 17 then Nat.beq (SHk x) 5 else bif Nat.beq (SHk j) 18 then Nat.beq (SHk x) 6 else bif Nat.beq (SHk j) 19 then Nat.beq (SHk x) 10 else false
def psh (r : MV) (rest : List MV) : List MV := match r with
  | (t, x) => bif Nat.beq t 9 then rest else (t, x) :: rest
def step (lim : Nat) (call : Nat → List MV → GG → Mm → Po → Prop) (next : Nat → Lc → List MV → GG → Mm → Prop) (Q : Po) (e : En) (L : Lc) (st : List MV) (G : GG) (M : Mm) : Prop := match e with
  | (pc, i, a, b, c, v, np) => match i with
    | .iconst _ => next np L ((b, v) :: st) G M
    | .bipush _ => next np L ((b, v) :: st) G M
    | .sipush _ => next np L ((b, v) :: st) G M
    | .lconst _ => next np L ((b, v) :: st) G M
    | .ldc _ => next np L ((b, v) :: st) G M
    | .ldc_w _ => next np L ((b, v) :: st) G M
    | .ldc2_w _ => next np L ((b, v) :: st) G M
    | .getstatic _ => next np L ((b, v) :: st) G M
    | .iload _ => tg 0 (ldL L a) fun x => next np L ((0, x) :: st) G M
    | .iload_n _ => tg 0 (ldL L a) fun x => next np L ((0, x) :: st) G M
    | .aload _ => tg 2 (ldL L a) fun x => next np L ((2, x) :: st) G M
    | .aload_n _ => tg 2 (ldL L a) fun x => next np L ((2, x) :: st) G M
    | .lload _ => tg 1 (ldL L a) fun x => next np L ((1, x) :: st) G M
    | .lload_n _ => tg 1 (ldL L a) fun x => next np L ((1, x) :: st) G M
    | .istore _ => st1 0 st fun x r => next np ((a, (0, x)) :: drL L a) r G M
    | .istore_n _ => st1 0 st fun x r => next np ((a, (0, x)) :: drL L a) r G M
    | .astore _ => st1 2 st fun x r => next np ((a, (2, x)) :: drL L a) r G M
    | .astore_n _ => st1 2 st fun x r => next np ((a, (2, x)) :: drL L a) r G M
    | .lstore _ => st1 1 st fun x r => next np ((a, (1, x)) :: drL (drL L a) (a + 1)) r G M
    | .lstore_n _ => st1 1 st fun x r => next np ((a, (1, x)) :: drL (drL L a) (a + 1)) r G M
    | .iinc _ _ => tg 0 (ldL L a) fun x => next np ((a, (0, w32 (x + v))) :: drL L a) st G M
    | .iadd => b2 0 st fun x y r => next np L ((0, w32 (x + y)) :: r) G M
    | .isub => b2 0 st fun x y r => next np L ((0, w32 (x - y)) :: r) G M
    | .imul => b2 0 st fun x y r => next np L ((0, w32 (x * y)) :: r) G M
    | .idiv => b2 0 st fun x y r => ¬ y = 0 ∧ next np L ((0, div32 x y) :: r) G M
    | .irem => b2 0 st fun x y r => ¬ y = 0 ∧ next np L ((0, rem32 x y) :: r) G M
    | .iand => b2 0 st fun x y r => next np L ((0, and32 x y) :: r) G M
    | .ior => b2 0 st fun x y r => next np L ((0, ior32 x y) :: r) G M
    | .ixor => b2 0 st fun x y r => next np L ((0, xor32 x y) :: r) G M
    | .ishl => b2 0 st fun x y r => next np L ((0, shl32 x y) :: r) G M
    | .ishr => b2 0 st fun x y r => next np L ((0, shr32 x y) :: r) G M
    | .iushr => b2 0 st fun x y r => next np L ((0, ush32 x y) :: r) G M
    | .ineg => st1 0 st fun x r => next np L ((0, w32 (-x)) :: r) G M
    | .ladd => b2 1 st fun x y r => next np L ((1, w64 (x + y)) :: r) G M
    | .lsub => b2 1 st fun x y r => next np L ((1, w64 (x - y)) :: r) G M
    | .lmul => b2 1 st fun x y r => next np L ((1, w64 (x * y)) :: r) G M
    | .ldiv => b2 1 st fun x y r => ¬ y = 0 ∧ next np L ((1, div64 x y) :: r) G M
    | .lrem => b2 1 st fun x y r => ¬ y = 0 ∧ next np L ((1, rem64 x y) :: r) G M
    | .land => b2 1 st fun x y r => next np L ((1, and64 x y) :: r) G M
    | .lor => b2 1 st fun x y r => next np L ((1, ior64 x y) :: r) G M
    | .lcmp => b2 1 st fun x y r => next np L ((0, cmp64 x y) :: r) G M
    | .lshl => st1 0 st fun y r => st1 1 r fun x r => next np L ((1, shl64 x y) :: r) G M
    | .lshr => st1 0 st fun y r => st1 1 r fun x r => next np L ((1, shr64 x y) :: r) G M
    | .i2l => st1 0 st fun x r => next np L ((1, x) :: r) G M
    | .l2i => st1 1 st fun x r => next np L ((0, w32 x) :: r) G M
    | .i2b => st1 0 st fun x r => next np L ((0, cut8 x) :: r) G M
    | .i2s => st1 0 st fun x r => next np L ((0, cut16 x) :: r) G M
    | .i2c => st1 0 st fun x r => next np L ((0, cutC x) :: r) G M
    | .dup => stw st fun x r => next np L (x :: x :: r) G M
    | .dup2 => stw st fun x r => stw r fun y r => next np L (x :: y :: x :: y :: r) G M
    | .pop => stw st fun _ r => next np L r G M
    | .getfield _ => st1 2 st fun j r => gd (Nat.beq (SHk j) a) (
        bif Nat.beq c 0 then next np L ((0, M j v) :: r) G M
        else bif Nat.beq c 2 then next np L ((2, GL G j b) :: r) G M
        else bif Nat.beq c 3 then next np L ((2, M j v) :: r) G M
        else bif Nat.beq c 4 then next np L ((0, M j v) :: r) G M
        else bif Nat.beq c 5 then next np L ((2, j - 10) :: r) G M
        else bif Nat.beq c 6 then next np L ((0, 0) :: r) G M else False)
    | .putfield _ => bif Nat.beq c 2 || Nat.beq c 3 then st1 2 st fun x r => st1 2 r fun j r => gd (Nat.beq (SHk j) a) (bif Nat.beq c 2 then next np L r (setG G j b x) M else next np L r G (up2 M j v x))
        else st1 0 st fun x r => st1 2 r fun j r => gd (Nat.beq (SHk j) a) (bif Nat.beq c 0 then next np L r G (up2 M j v x) else gd (Nat.beq c 4) ((x = 0 ∨ x = 1) ∧ next np L r G (up2 M j v x)))
    | .iaload => st1 0 st fun i r => st1 2 r fun j r => bif Nat.beq (SHk j) 13 then (0 ≤ i ∧ i < SHl j) ∧ next np L ((0, M j i) :: r) G M
        else gd (Nat.beq (SHk j) 98) ((0 ≤ i ∧ i < M 0 0) ∧ next np L ((0, M (-1) i) :: r) G M)
    | .laload => st1 0 st fun i r => st1 2 r fun j r => gd (Nat.beq (SHk j) 14) ((0 ≤ i ∧ i < SHl j) ∧ next np L ((1, M j i) :: r) G M)
    | .baload => st1 0 st fun i r => st1 2 r fun j r => bif Nat.beq (SHk j) 15 then (0 ≤ i ∧ i < SHl j) ∧ next np L ((0, M j i) :: r) G M
        else gd (Nat.beq (SHk j) 95) ((0 ≤ i ∧ i < ((txt j).length : Int)) ∧ next np L ((0, nth0 (txt j) i.toNat) :: r) G M)
    | .aaload => st1 0 st fun i r => st1 2 r fun j r => gd (Nat.ble 16 (SHk j) && Nat.ble (SHk j) 19) ((0 ≤ i ∧ i < SHl j) ∧ next np L ((2, M j i) :: r) G M)
    | .iastore => st1 0 st fun x r => st1 0 r fun i r => st1 2 r fun j r => gd (Nat.beq (SHk j) 13) ((0 ≤ i ∧ i < SHl j) ∧ next np L r G (up2 M j i x))
    | .lastore => st1 1 st fun x r => st1 0 r fun i r => st1 2 r fun j r => gd (Nat.beq (SHk j) 14) ((0 ≤ i ∧ i < SHl j) ∧ next np L r G (up2 M j i x))
    | .bastore => st1 0 st fun x r => st1 0 r fun i r => st1 2 r fun j r => gd (Nat.beq (SHk j) 15) ((0 ≤ i ∧ i < SHl j) ∧ (x = 0 ∨ x = 1) ∧ next np L r G (up2 M j i x))
    | .aastore => st1 2 st fun x r => st1 0 r fun i r => st1 2 r fun j r => gd (isCell j x) ((0 ≤ i ∧ i < SHl j) ∧ next np L r G (up2 M j i x))
    | .arraylength => st1 2 st fun j r => bif Nat.ble 13 (SHk j) && Nat.ble (SHk j) 19 then next np L ((0, SHl j) :: r) G M
        else bif Nat.beq (SHk j) 98 then next np L ((0, M 0 0) :: r) G M
        else gd (Nat.beq (SHk j) 95) (next np L ((0, ((txt j).length : Int)) :: r) G M)
    | .new _ => gd (Nat.beq (SHn (numO G.1)) a && Nat.ble a 12 && Nat.blt G.1 lim) (next np L ((2, (numO G.1 : Int)) :: st) (G.1 + 1, G.2.set (numO G.1) (List.replicate (SHm (numO G.1)) 0)) (upR M (numO G.1) fun _ => 0))
    | .newarray _ => st1 0 st fun x r => gd (Nat.beq (SHn (numO G.1)) a && Nat.ble 13 a && Nat.ble a 15 && Nat.blt G.1 lim) (x = SHl (numO G.1) ∧ next np L ((2, (numO G.1 : Int)) :: r) (G.1 + 1, G.2.set (numO G.1) []) (upR M (numO G.1) fun _ => 0))
    | .anewarray _ => st1 0 st fun x r => gd (Nat.beq (SHn (numO G.1)) a && Nat.ble 16 a && Nat.ble a 19 && Nat.blt G.1 lim) (x = SHl (numO G.1) ∧ next np L ((2, (numO G.1 : Int)) :: r) (G.1 + 1, G.2.set (numO G.1) []) (upR M (numO G.1) fun _ => 0))
    | .goto _ => next a L st G M
    | .ifCond cc _ => st1 0 st fun x r => (match cc with
        | .eq => br (x = 0) (next a L r G M) (next np L r G M)
        | .ne => br (x = 0) (next np L r G M) (next a L r G M)
        | .lt => br (x < 0) (next a L r G M) (next np L r G M)
        | .ge => br (x < 0) (next np L r G M) (next a L r G M)
        | .gt => br (0 < x) (next a L r G M) (next np L r G M)
        | .le => br (0 < x) (next np L r G M) (next a L r G M))
    | .if_icmp cc _ => b2 0 st fun x y r => (match cc with
        | .eq => br (x = y) (next a L r G M) (next np L r G M)
        | .ne => br (x = y) (next np L r G M) (next a L r G M)
        | .lt => br (x < y) (next a L r G M) (next np L r G M)
        | .ge => br (x < y) (next np L r G M) (next a L r G M)
        | .gt => br (y < x) (next a L r G M) (next np L r G M)
        | .le => br (y < x) (next np L r G M) (next a L r G M))
    | .tableswitch df lo _ offs => st1 0 st fun x r => swt x (next ((pc : Int) + df).toNat L r G M) (fun o => next ((pc : Int) + o).toNat L r G M) lo offs.toList
    | .ireturn => st1 0 st fun x r => st0 r (
        bif Nat.beq a 0 then Q (0, x) G M
        else bif Nat.beq a 1 then (x = 0 ∨ x = 1) ∧ Q (0, x) G M
        else bif Nat.beq a 2 then (0 ≤ x ∧ x < 65536) ∧ Q (0, x) G M
        else gd (Nat.beq a 3) ((-128 ≤ x ∧ x < 128) ∧ Q (0, x) G M))
    | .lreturn => st1 1 st fun x r => st0 r (Q (1, x) G M)
    | .return_ => st0 st (Q (9, 0) G M)
    | .invokevirtual _ => popA b st [] fun as rest => gd (Nat.ble (cat1 rest) 8 && Nat.blt a 316 && isK as c && Nat.ble (cat1 as) (myM a) && Nat.ble (G.1 + acs a) lim) (call a as G M (fun r G' M' => next np L (psh r rest) G' M'))
    | .invokespecial _ => popA b st [] fun as rest => gd (Nat.ble (cat1 rest) 8) (
        bif Nat.beq a 1000 then st1 2 as fun j r => st0 r (gd (Nat.ble (SHk j) 12) (next np L rest G M))
        else gd (Nat.blt a 316 && isK as c && Nat.ble (cat1 as) (myM a) && Nat.ble (G.1 + acs a) lim) (call a as G M (fun r G' M' => next np L (psh r rest) G' M')))
    | .invokestatic _ => bif Nat.beq a 1001 then st1 0 st fun n r => st1 0 r fun dp r => st1 2 r fun d r => st1 0 r fun sp r => st1 2 r fun s r =>
          gd (Nat.ble (cat1 r) 8 && Nat.beq (SHk s) 13 && Nat.beq (SHk d) 13) ((¬ s = d ∧ 0 ≤ sp ∧ 0 ≤ dp ∧ 0 ≤ n ∧ sp + n ≤ SHl s ∧ dp + n ≤ SHl d) ∧ next np L r G (cpy2 M s sp d dp n))
        else popA b st [] fun as rest => gd (Nat.ble (cat1 rest) 8 && Nat.blt a 316 && Nat.ble (cat1 as) (myM a) && Nat.ble (G.1 + acs a) lim) (call a as G M (fun r G' M' => next np L (psh r rest) G' M'))
    | _ => False
/-! RUNS: the least relation that the step closes, whatever holds behind it being free -/
abbrev RX : Type := Nat → Nat → Nat → Nat → Lc → List MV → GG → Mm → Po → Prop
def callX (X : RX) (d : Nat) : Nat → List MV → GG → Mm → Po → Prop := fun m as G M K => ∃ d', d = d' + 1 ∧ X d' (G.1 + acs m) m 0 (mkL 0 as) [] G M (fun r G' M' => gd (Nat.beq G'.1 (G.1 + acs m)) (K r G' M'))
def monX (X : RX) : Prop := ∀ d lim m pc L st G M (Q Q' : Po), (∀ r G M, Q r G M → Q' r G M) → X d lim m pc L st G M Q → X d lim m pc L st G M Q'
def cloX (X : RX) : Prop := ∀ d lim m pc L st G M (Q : Po) L0 e r, (∀ q ∈ L0, q ∈ L) → seekL (codes m) pc = e :: r → step lim (callX X d) (fun pc' L' st' G' M' => X d lim m pc' L' st' G' M' Q) Q e L0 st G M → X d lim m pc L st G M Q
def Run : RX := fun d lim m pc L st G M Q => ∀ X : RX, monX X → cloX X → X d lim m pc L st G M Q
def CallP (d m : Nat) (as : List MV) (G : GG) (M : Mm) (K : Po) : Prop := callX Run d m as G M K
def cutAt : List (Nat × List Nat) → Nat → Option (List Nat)
  | [], _ => none
  | (p, l) :: r, pc => bif Nat.beq p pc then some l else cutAt r pc
def wpS (d lim m : Nat) (cd : List En) (cuts : List (Nat × List Nat)) (Q : Po) : Nat → List En → Lc → List MV → GG → Mm → Prop
  | _, [], _, _, _, _ => False
  | 0, e :: _, L, st, G, M => Run d lim m e.1 L st G M Q
  | k + 1, e :: r, L, st, G, M => step lim (CallP d) (fun pc' L' st' G' M' => match cutAt cuts pc' with
      | some live => Run d lim m pc' (pkL live L') st' G' M' Q
      | none => wpS d lim m cd cuts Q k (bif Nat.beq pc' e.2.2.2.2.2.2 then r else seekL cd pc') L' st' G' M') Q e L st G M
