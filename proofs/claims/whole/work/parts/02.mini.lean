/-! THE SMALL MACHINE: the bytecode of the program over a memory of whole numbers.
    A value is a tag and a number (0 int, 1 long, 2 reference, 9 nothing); a reference is an object's number (0: null, -1: the script, below -9: a text).
    Memory: by object and place. References that never change stand in G, apart from the memory. -/
abbrev MV : Type := Nat × Int
abbrev Lc : Type := List (Nat × MV)
abbrev Mm : Type := Int → Int → Int
abbrev GG : Type := Nat × List (List Int)
abbrev Po : Type := MV → GG → Mm → Prop
/-- pc, instruction, a, b, c, v, the next pc -/
abbrev En : Type := Nat × Instr × Nat × Nat × Nat × Int × Nat
def w32 (x : Int) : Int := (x + 2147483648) % 4294967296 - 2147483648
def w64 (x : Int) : Int := (x + 9223372036854775808) % 18446744073709551616 - 9223372036854775808
def ldL : Lc → Nat → MV
  | [], _ => (9, 0)
  | (j, v) :: r, i => bif Nat.beq j i then v else ldL r i
def drL : Lc → Nat → Lc
  | [], _ => []
  | (j, v) :: r, i => bif Nat.beq j i || (Nat.beq (j + 1) i && Nat.beq v.1 1) then drL r i else (j, v) :: drL r i
def pkL : List Nat → Lc → Lc
  | [], _ => []
  | i :: r, L => match ldL L i with
    | (t, x) => bif Nat.beq t 9 then pkL r L else (i, (t, x)) :: pkL r L
def mkL : Nat → List MV → Lc
  | _, [] => []
  | i, v :: r => (i, v) :: mkL (bif Nat.beq v.1 1 then i + 2 else i + 1) r
def seekL : List En → Nat → List En
  | [], _ => []
  | e :: r, p => bif Nat.beq e.1 p then e :: r else seekL r p
def up2 (M : Mm) (j k v : Int) : Mm := fun a b => if a = j ∧ b = k then v else M a b
def upR (M : Mm) (j : Int) (f : Int → Int) : Mm := fun a b => if a = j then f b else M a b
def nth0 : List Int → Nat → Int
  | [], _ => 0
  | x :: _, 0 => x
  | _ :: r, k + 1 => nth0 r k
def nthR : List (List Int) → Nat → List Int
  | [], _ => []
  | x :: _, 0 => x
  | _ :: r, k + 1 => nthR r k
def GL (G : GG) (j : Int) (k : Nat) : Int := match j with
  | .ofNat m => nth0 (nthR G.2 m) k
  | .negSucc _ => 0
def setG (G : GG) (j : Int) (k : Nat) (v : Int) : GG := match j with
  | .ofNat m => (G.1, G.2.set m ((nthR G.2 m).set k v))
  | .negSucc _ => G
def cat1 (st : List MV) : Nat := match st with
  | [] => 0
  | v :: r => (bif Nat.beq v.1 1 then 2 else 1) + cat1 r
