/-! ONE STEP of the small machine, as what must hold before it -/
def SHk (j : Int) : Nat := match j with
  | .ofNat m => SHn m
  | .negSucc 0 => 98
  | .negSucc 1 => 94
  | .negSucc 9 | .negSucc 10 | .negSucc 11 => 96
  | .negSucc 19 | .negSucc 20 | .negSucc 21 => 95
  | .negSucc _ => 97
def SHl (j : Int) : Int := match j with
  | .ofNat m => Int.ofNat (SHm m)
  | .negSucc _ => 0
def shl32 (x y : Int) : Int := w32 (x * 2 ^ (y % 32).toNat)
def shr32 (x y : Int) : Int := x / 2 ^ (y % 32).toNat
def ush32 (x y : Int) : Int := w32 (x % 4294967296 / 2 ^ (y % 32).toNat)
def shl64 (x y : Int) : Int := w64 (x * 2 ^ (y % 64).toNat)
def shr64 (x y : Int) : Int := x / 2 ^ (y % 64).toNat
def and32 (x y : Int) : Int := (Int32.ofInt x &&& Int32.ofInt y).toInt
def ior32 (x y : Int) : Int := (Int32.ofInt x ||| Int32.ofInt y).toInt
def xor32 (x y : Int) : Int := (Int32.ofInt x ^^^ Int32.ofInt y).toInt
def and64 (x y : Int) : Int := (Int64.ofInt x &&& Int64.ofInt y).toInt
def ior64 (x y : Int) : Int := (Int64.ofInt x ||| Int64.ofInt y).toInt
def cmp64 (x y : Int) : Int := if y < x then 1 else if x = y then 0 else -1
def txt (j : Int) : List Int := match j with
  | .negSucc 9 | .negSucc 19 => tx0
  | .negSucc 10 | .negSucc 20 => tx1
  | .negSucc 11 | .negSucc 21 => tx2
  | _ => []
def cpy2 (M : Mm) (s sp d dp n : Int) : Mm := fun a b => if a = d ∧ dp ≤ b ∧ b < dp + n then M s (sp + (b - dp)) else M a b
def b2 (st : List MV) (k : Int → Int → List MV → Prop) : Prop := match st with
  | (0, y) :: (0, x) :: r => k x y r
  | _ => False
def l2 (st : List MV) (k : Int → Int → List MV → Prop) : Prop := match st with
  | (1, y) :: (1, x) :: r => k x y r
  | _ => False
def br (c A B : Prop) : Prop := (c → A) ∧ (¬ c → B)
def swt (x : Int) (d : Prop) (k : Int → Prop) : Int → List Int → Prop
  | _, [] => d
  | i, o :: r => (x = i → k o) ∧ (¬ x = i → swt x d k (i + 1) r)
def popA : Nat → List MV → List MV → (List MV → List MV → Prop) → Prop
  | 0, st, acc, k => k acc st
  | n + 1, v :: st, acc, k => popA n st (v :: acc) k
  | _ + 1, [], _, _ => False
def step (call : Nat → List MV → GG → Mm → Po → Prop) (next : Nat → Lc → List MV → GG → Mm → Prop) (Q : Po) (e : En) (L : Lc) (st : List MV) (G : GG) (M : Mm) : Prop := match e with
  | (pc, i, a, b, c, v, np) => match i with
    | .iconst _ | .bipush _ | .sipush _ | .lconst _ | .ldc _ | .ldc_w _ | .ldc2_w _ | .getstatic _ => next np L ((b, v) :: st) G M
    | .iload _ | .iload_n _ => match ldL L a with
      | (0, x) => next np L ((0, x) :: st) G M
      | _ => False
    | .aload _ | .aload_n _ => match ldL L a with
      | (2, x) => next np L ((2, x) :: st) G M
      | _ => False
    | .lload _ | .lload_n _ => match ldL L a with
      | (1, x) => next np L ((1, x) :: st) G M
      | _ => False
    | .istore _ | .istore_n _ => match st with
      | (0, x) :: r => next np ((a, (0, x)) :: drL L a) r G M
      | _ => False
    | .astore _ | .astore_n _ => match st with
      | (2, x) :: r => next np ((a, (2, x)) :: drL L a) r G M
      | _ => False
    | .lstore _ | .lstore_n _ => match st with
      | (1, x) :: r => next np ((a, (1, x)) :: drL (drL L a) (a + 1)) r G M
      | _ => False
    | .iinc _ _ => match ldL L a with
      | (0, x) => next np ((a, (0, w32 (x + v))) :: drL L a) st G M
      | _ => False
    | .iadd => b2 st fun x y r => next np L ((0, w32 (x + y)) :: r) G M
    | .isub => b2 st fun x y r => next np L ((0, w32 (x - y)) :: r) G M
    | .imul => b2 st fun x y r => next np L ((0, w32 (x * y)) :: r) G M
    | .idiv => b2 st fun x y r => ¬ y = 0 ∧ next np L ((0, w32 (x.tdiv y)) :: r) G M
    | .irem => b2 st fun x y r => ¬ y = 0 ∧ next np L ((0, x.tmod y) :: r) G M
    | .iand => b2 st fun x y r => next np L ((0, and32 x y) :: r) G M
    | .ior => b2 st fun x y r => next np L ((0, ior32 x y) :: r) G M
    | .ixor => b2 st fun x y r => next np L ((0, xor32 x y) :: r) G M
    | .ishl => b2 st fun x y r => next np L ((0, shl32 x y) :: r) G M
    | .ishr => b2 st fun x y r => next np L ((0, shr32 x y) :: r) G M
    | .iushr => b2 st fun x y r => next np L ((0, ush32 x y) :: r) G M
    | .ineg => match st with
      | (0, x) :: r => next np L ((0, w32 (-x)) :: r) G M
      | _ => False
    | .ladd => l2 st fun x y r => next np L ((1, w64 (x + y)) :: r) G M
    | .lsub => l2 st fun x y r => next np L ((1, w64 (x - y)) :: r) G M
    | .lmul => l2 st fun x y r => next np L ((1, w64 (x * y)) :: r) G M
    | .ldiv => l2 st fun x y r => ¬ y = 0 ∧ next np L ((1, w64 (x.tdiv y)) :: r) G M
    | .lrem => l2 st fun x y r => ¬ y = 0 ∧ next np L ((1, x.tmod y) :: r) G M
    | .land => l2 st fun x y r => next np L ((1, and64 x y) :: r) G M
    | .lor => l2 st fun x y r => next np L ((1, ior64 x y) :: r) G M
    | .lcmp => l2 st fun x y r => next np L ((0, cmp64 x y) :: r) G M
    | .lshl => match st with
      | (0, y) :: (1, x) :: r => next np L ((1, shl64 x y) :: r) G M
      | _ => False
    | .lshr => match st with
      | (0, y) :: (1, x) :: r => next np L ((1, shr64 x y) :: r) G M
      | _ => False
    | .i2l => match st with
      | (0, x) :: r => next np L ((1, x) :: r) G M
      | _ => False
    | .l2i => match st with
      | (1, x) :: r => next np L ((0, w32 x) :: r) G M
      | _ => False
    | .i2b => match st with
      | (0, x) :: r => next np L ((0, (x + 128) % 256 - 128) :: r) G M
      | _ => False
    | .i2s => match st with
      | (0, x) :: r => next np L ((0, (x + 32768) % 65536 - 32768) :: r) G M
      | _ => False
    | .i2c => match st with
      | (0, x) :: r => next np L ((0, x % 65536) :: r) G M
      | _ => False
    | .dup => match st with
      | (t, x) :: r => bif Nat.beq t 1 then False else next np L ((t, x) :: (t, x) :: r) G M
      | _ => False
    | .dup2 => match st with
      | (t, x) :: (u, y) :: r => bif Nat.beq t 1 || Nat.beq u 1 then False else next np L ((t, x) :: (u, y) :: (t, x) :: (u, y) :: r) G M
      | _ => False
    | .pop => match st with
      | (t, _) :: r => bif Nat.beq t 1 then False else next np L r G M
      | _ => False
    | .getfield _ => match st with
      | (2, j) :: r => bif Nat.beq (SHk j) a then (match c with
        | 0 => next np L ((0, M j v) :: r) G M
        | 2 => next np L ((2, GL G j b) :: r) G M
        | 3 => next np L ((2, M j v) :: r) G M
        | 4 => next np L ((0, M j v) :: r) G M
        | 5 => next np L ((2, j - 10) :: r) G M
        | 6 => next np L ((0, 0) :: r) G M
        | _ => False) else False
      | _ => False
    | .putfield _ => match st with
      | (t, x) :: (2, j) :: r => bif Nat.beq (SHk j) a then (match c, t with
        | 0, 0 => next np L r G (up2 M j v x)
        | 2, 2 => next np L r (setG G j b x) M
        | 3, 2 => next np L r G (up2 M j v x)
        | 4, 0 => (x = 0 ∨ x = 1) ∧ next np L r G (up2 M j v x)
        | _, _ => False) else False
      | _ => False
    | .iaload => match st with
      | (0, i) :: (2, j) :: r => bif Nat.beq (SHk j) 13 then (0 ≤ i ∧ i < SHl j) ∧ next np L ((0, M j i) :: r) G M
        else bif Nat.beq (SHk j) 98 then (0 ≤ i ∧ i < M 0 0) ∧ next np L ((0, M 1 i) :: r) G M else False
      | _ => False
    | .laload => match st with
      | (0, i) :: (2, j) :: r => bif Nat.beq (SHk j) 14 then (0 ≤ i ∧ i < SHl j) ∧ next np L ((1, M j i) :: r) G M else False
      | _ => False
    | .baload => match st with
      | (0, i) :: (2, j) :: r => bif Nat.beq (SHk j) 15 then (0 ≤ i ∧ i < SHl j) ∧ next np L ((0, M j i) :: r) G M
        else bif Nat.beq (SHk j) 95 then (0 ≤ i ∧ i < (txt j).length) ∧ next np L ((0, nth0 (txt j) i.toNat) :: r) G M else False
      | _ => False
    | .aaload => match st with
      | (0, i) :: (2, j) :: r => bif Nat.ble 16 (SHk j) && Nat.ble (SHk j) 19 then (0 ≤ i ∧ i < SHl j) ∧ next np L ((2, M j i) :: r) G M else False
      | _ => False
    | .iastore => match st with
      | (0, x) :: (0, i) :: (2, j) :: r => bif Nat.beq (SHk j) 13 then (0 ≤ i ∧ i < SHl j) ∧ next np L r G (up2 M j i x) else False
      | _ => False
    | .lastore => match st with
      | (1, x) :: (0, i) :: (2, j) :: r => bif Nat.beq (SHk j) 14 then (0 ≤ i ∧ i < SHl j) ∧ next np L r G (up2 M j i x) else False
      | _ => False
    | .bastore => match st with
      | (0, x) :: (0, i) :: (2, j) :: r => bif Nat.beq (SHk j) 15 then (0 ≤ i ∧ i < SHl j) ∧ (x = 0 ∨ x = 1) ∧ next np L r G (up2 M j i x) else False
      | _ => False
    | .aastore => match st with
      | (2, x) :: (0, i) :: (2, j) :: r => bif (Nat.beq (SHk j) 16 && Nat.beq (SHk x) 2) || (Nat.beq (SHk j) 17 && Nat.beq (SHk x) 5) || (Nat.beq (SHk j) 18 && Nat.beq (SHk x) 6) || (Nat.beq (SHk j) 19 && Nat.beq (SHk x) 10)
          then (0 ≤ i ∧ i < SHl j) ∧ next np L r G (up2 M j i x) else False
      | _ => False
    | .arraylength => match st with
      | (2, j) :: r => bif Nat.ble 13 (SHk j) && Nat.ble (SHk j) 19 then next np L ((0, SHl j) :: r) G M
        else bif Nat.beq (SHk j) 98 then next np L ((0, M 0 0) :: r) G M
        else bif Nat.beq (SHk j) 95 then next np L ((0, ((txt j).length : Int)) :: r) G M else False
      | _ => False
    | .new _ => bif Nat.beq (SHn G.1) a && Nat.ble a 12 then next np L ((2, (G.1 : Int)) :: st) (G.1 + 1, G.2 ++ [List.replicate (SHm G.1) 0]) (upR M G.1 fun _ => 0) else False
    | .newarray _ | .anewarray _ => match st with
      | (0, x) :: r => bif Nat.beq (SHn G.1) a && Nat.ble 13 a then x = SHl G.1 ∧ next np L ((2, (G.1 : Int)) :: r) (G.1 + 1, G.2 ++ [[]]) (upR M G.1 fun _ => 0) else False
      | _ => False
    | .goto _ => next a L st G M
    | .ifCond cc _ => match st with
      | (0, x) :: r => (match cc with
        | .eq => br (x = 0) (next a L r G M) (next np L r G M)
        | .ne => br (x = 0) (next np L r G M) (next a L r G M)
        | .lt => br (x < 0) (next a L r G M) (next np L r G M)
        | .ge => br (x < 0) (next np L r G M) (next a L r G M)
        | .gt => br (0 < x) (next a L r G M) (next np L r G M)
        | .le => br (0 < x) (next np L r G M) (next a L r G M))
      | _ => False
    | .if_icmp cc _ => b2 st fun x y r => (match cc with
        | .eq => br (x = y) (next a L r G M) (next np L r G M)
        | .ne => br (x = y) (next np L r G M) (next a L r G M)
        | .lt => br (x < y) (next a L r G M) (next np L r G M)
        | .ge => br (x < y) (next np L r G M) (next a L r G M)
        | .gt => br (y < x) (next a L r G M) (next np L r G M)
        | .le => br (y < x) (next np L r G M) (next a L r G M))
    | .tableswitch df lo _ offs => match st with
      | (0, x) :: r => swt x (next ((pc : Int) + df).toNat L r G M) (fun o => next ((pc : Int) + o).toNat L r G M) lo offs.toList
      | _ => False
    | .ireturn => match st with
      | [(0, x)] => (match a with
        | 0 => Q (0, x) G M
        | 1 => (x = 0 ∨ x = 1) ∧ Q (0, x) G M
        | 2 => (0 ≤ x ∧ x < 65536) ∧ Q (0, x) G M
        | 3 => (-128 ≤ x ∧ x < 128) ∧ Q (0, x) G M
        | _ => False)
      | _ => False
    | .lreturn => match st with
      | [(1, x)] => Q (1, x) G M
      | _ => False
    | .return_ => match st with
      | [] => Q (9, 0) G M
      | _ => False
    | .invokevirtual _ | .invokespecial _ | .invokestatic _ => popA b st [] fun as rest => bif Nat.ble (cat1 rest) 8 then
        (bif Nat.blt a 1000 then
          (bif Nat.beq c 99 || (match as with
            | (2, j) :: _ => Nat.beq (SHk j) c
            | _ => false) then call a as G M (fun r G' M' => next np L (bif Nat.beq r.1 9 then rest else r :: rest) G' M') else False)
         else match a, as with
          | 1000, [(2, j)] => bif Nat.ble (SHk j) 12 then next np L rest G M else False
          | 1001, [(2, s), (0, sp), (2, d), (0, dp), (0, n)] => bif Nat.beq (SHk s) 13 && Nat.beq (SHk d) 13 then (¬ s = d ∧ 0 ≤ sp ∧ 0 ≤ dp ∧ 0 ≤ n ∧ sp + n ≤ SHl s ∧ dp + n ≤ SHl d) ∧ next np L rest G (cpy2 M s sp d dp n) else False
          | _, _ => False)
        else False
    | _ => False
def wpF : Nat → Nat → Nat → Nat → Lc → List MV → GG → Mm → Po → Prop
  | 0, _, _, _, _, _, _, _, _ => False
  | f + 1, d, m, pc, L, st, G, M, Q => ∃ (L0 : Lc) (e : En) (r : List En), (∀ q ∈ L0, q ∈ L) ∧ seekL (codes m) pc = e :: r ∧
      step (fun m' as G M K => ∃ d', d = d' + 1 ∧ wpF f d' m' 0 (mkL 0 as) [] G M (fun r G' M' => bif Nat.beq G'.1 (G.1 + acs m') then K r G' M' else False)) (fun pc' L' st' G' M' => wpF f d m pc' L' st' G' M' Q) Q e L0 st G M
def Run (d m pc : Nat) (L : Lc) (st : List MV) (G : GG) (M : Mm) (Q : Po) : Prop := ∃ f, wpF f d m pc L st G M Q
def CallP (d m : Nat) (as : List MV) (G : GG) (M : Mm) (K : Po) : Prop := ∃ f d', d = d' + 1 ∧ wpF f d' m 0 (mkL 0 as) [] G M (fun r G' M' => bif Nat.beq G'.1 (G.1 + acs m) then K r G' M' else False)
def cutAt : List (Nat × List Nat) → Nat → Option (List Nat)
  | [], _ => none
  | (p, l) :: r, pc => bif Nat.beq p pc then some l else cutAt r pc
def wpS (d m : Nat) (cd : List En) (cuts : List (Nat × List Nat)) (Q : Po) : Nat → List En → Lc → List MV → GG → Mm → Prop
  | _, [], _, _, _, _ => False
  | 0, e :: _, L, st, G, M => Run d m e.1 L st G M Q
  | k + 1, e :: r, L, st, G, M => step (CallP d) (fun pc' L' st' G' M' => match cutAt cuts pc' with
      | some live => Run d m pc' (pkL live L') st' G' M' Q
      | none => wpS d m cd cuts Q k (bif Nat.beq pc' e.2.2.2.2.2.2 then r else seekL cd pc') L' st' G' M') Q e L st G M
