/-! STACKS as numbers: orders and sides -/
def fct : Nat → Nat
  | 0 => 1
  | n + 1 => (n + 1) * fct n
def pick : Nat → List Nat → Nat → List Nat
  | 0, _, _ => []
  | k + 1, av, o => av.getD (o / fct k) 0 :: pick k (av.erase (av.getD (o / fct k) 0)) (o % fct k)
/-- the sizes of the o-th order of n, from the top on -/
def pmL (n o : Nat) : List Nat := pick n (List.range' 1 n) o
def sz (n o i : Nat) : Nat := (pmL n o).getD i 0
def rkH : Nat → List Nat → Nat
  | a, [] => a
  | a, x :: r => rkH (a * (r.length + 1) + (r.filter (fun y => Nat.blt y x)).length) r
/-- the number of an order -/
def rk (l : List Nat) : Nat := rkH 0 l
/-- the topmost k turned -/
def tnL (l : List Nat) (k : Nat) : List Nat := (l.take k).reverse ++ l.drop k
def oT (n o k : Nat) : Nat := rk (tnL (pmL n o) k)
def oW (n o k : Nat) : Nat := ((pmL n o).take k).sum
def runR : List Nat → Nat → Nat
  | [], _ => 0
  | x :: r, n => bif Nat.beq x n then runR r (n - 1) + 1 else 0
def oR (n o : Nat) : Nat := runR (pmL n o).reverse n
/-- the side of the i-th from the top: 1 burnt side up -/
def sd (n d i : Nat) : Nat := d / 2 ^ (n - 1 - i) % 2
def sdL (n d : Nat) : List Nat := (List.range n).map (sd n d)
def bitsH : Nat → List Nat → Nat
  | a, [] => a
  | a, x :: r => bitsH (2 * a + x) r
def sT (n d k : Nat) : Nat := bitsH 0 (((sdL n d).take k).reverse.map (fun x => 1 - x) ++ (sdL n d).drop k)
def runZ : List Nat → Nat
  | [] => 0
  | x :: r => bif Nat.beq x 0 then runZ r + 1 else 0
def sR (n d : Nat) : Nat := runZ (sdL n d).reverse
def allS (n : Nat) : Nat := fct n * 2 ^ n
def szS (n s i : Nat) : Nat := if i < n then sz n (s / 2 ^ n) i else 0
def upS (n s i : Nat) : Nat := sd n (s % 2 ^ n) i
def upsS (n s : Nat) : Nat := (sdL n (s % 2 ^ n)).sum
def rtS (n s : Nat) : Nat := min (oR n (s / 2 ^ n)) (sR n (s % 2 ^ n))
def tnS (n s k : Nat) : Nat := oT n (s / 2 ^ n) k * 2 ^ n + sT n (s % 2 ^ n) k
def wkS (n s k : Nat) : Nat := oW n (s / 2 ^ n) k
theorem rk_pm : ∀ n, n < 6 → ∀ o, o < fct n → rk (pmL n o) = o := by decide +kernel
theorem sz_in : ∀ n, n < 6 → ∀ o, o < fct n → ∀ i, i < n → 1 ≤ sz n o i ∧ sz n o i ≤ n := by decide +kernel
theorem oT_in : ∀ n, n < 6 → ∀ o, o < fct n → ∀ k, k < n + 1 → oT n o k < fct n := by decide +kernel
theorem oT_inv : ∀ n, n < 6 → ∀ o, o < fct n → ∀ k, k < n + 1 → oT n (oT n o k) k = o := by decide +kernel
theorem sT_in : ∀ n, n < 6 → ∀ d, d < 2 ^ n → ∀ k, k < n + 1 → sT n d k < 2 ^ n := by decide +kernel
theorem sT_inv : ∀ n, n < 6 → ∀ d, d < 2 ^ n → ∀ k, k < n + 1 → sT n (sT n d k) k = d := by decide +kernel
theorem oW_in : ∀ n, n < 6 → ∀ o, o < fct n → ∀ k, k < n + 1 → oW n o k ≤ 15 ∧ (0 < k → 1 ≤ oW n o k) := by decide +kernel
theorem oR_in : ∀ n, n < 6 → ∀ o, o < fct n → oR n o ≤ n := by decide +kernel
theorem sR_in : ∀ n, n < 6 → ∀ d, d < 2 ^ n → sR n d ≤ n := by decide +kernel
/-- the tables of the class, laid for n pancakes -/
def StkOK (n : Nat) (M : Mm) : Prop := 1 ≤ n ∧ n ≤ 5 ∧ M 19 0 = (n : Int) ∧ M 19 1 = ((2 ^ n : Nat) : Int) ∧ M 19 2 = ((allS n : Nat) : Int)
  ∧ (∀ o i : Nat, o < fct n → i < n → M 20 ((5 * o + i : Nat) : Int) = ((sz n o i : Nat) : Int))
  ∧ (∀ o k : Nat, o < fct n → k ≤ n → M 21 ((6 * o + k : Nat) : Int) = ((oT n o k : Nat) : Int) ∧ M 22 ((6 * o + k : Nat) : Int) = ((oW n o k : Nat) : Int))
  ∧ (∀ o : Nat, o < fct n → M 23 (o : Int) = ((oR n o : Nat) : Int))
  ∧ (∀ d k : Nat, d < 2 ^ n → k ≤ n → M 24 ((6 * d + k : Nat) : Int) = ((sT n d k : Nat) : Int))
  ∧ (∀ d : Nat, d < 2 ^ n → M 25 (d : Int) = ((sR n d : Nat) : Int))
  ∧ (∀ d : Nat, d < 2 ^ n → M 1 (d : Int) = (((sdL n d).sum : Nat) : Int))
theorem fct_le : ∀ n, n < 6 → fct n ≤ 120 ∧ 1 ≤ fct n ∧ 2 ^ n ≤ 32 ∧ allS n ≤ 3840 := by decide
theorem ord_lt {n s : Nat} (h : s < allS n) : s / 2 ^ n < fct n := by
  unfold allS at h
  exact Nat.div_lt_of_lt_mul (by rw [Nat.mul_comm]; exact h)
theorem sid_lt {n s : Nat} : s % 2 ^ n < 2 ^ n := Nat.mod_lt _ (Nat.pow_pos (by omega))
theorem tnS_in {n s k : Nat} (hn : n < 6) (hs : s < allS n) (hk : k ≤ n) : tnS n s k < allS n := by
  have h1 := oT_in n hn _ (ord_lt hs) k (by omega)
  have h2 := sT_in n hn _ (sid_lt (s := s)) k (by omega)
  unfold tnS allS
  calc oT n (s / 2 ^ n) k * 2 ^ n + sT n (s % 2 ^ n) k < oT n (s / 2 ^ n) k * 2 ^ n + 2 ^ n := by omega
    _ = (oT n (s / 2 ^ n) k + 1) * 2 ^ n := by rw [Nat.add_mul, Nat.one_mul]
    _ ≤ fct n * 2 ^ n := Nat.mul_le_mul_right _ h1
