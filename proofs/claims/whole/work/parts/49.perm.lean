/-! by hand: all orders of the persons, in the order in which the reference tries them -/
def pl (n : Nat) : Nat → Nat → (Nat → Bool) → List Nat
  | 0, acc, _ => [acc]
  | k + 1, acc, us => (List.range n).flatMap (fun x => if us x then [] else pl n k (acc * 10 + x) (fun y => y == x || us y))
def PL (n : Nat) : List Nat := pl n n 0 (fun _ => false)
/-- one more than the place that goes up (0: none) -/
def pv (p : Nat → Nat) : Nat → Nat
  | 0 => 0
  | k + 1 => if p k ≤ p (k + 1) then k + 1 else pv p k
/-- the last one not below a -/
def lj (p : Nat → Nat) (a : Nat) : Nat → Nat
  | 0 => 0
  | k + 1 => if a ≤ p k then k else lj p a k
def swp (p : Nat → Nat) (i j : Nat) : Nat → Nat := fun u => if u = j then p i else if u = i then p j else p u
def nxq (n : Nat) (p : Nat → Nat) (i j : Nat) : Nat → Nat := fun u => if u ≤ i then swp p i j u else swp p i j (i + n - u)
def nxp (n : Nat) (p : Nat → Nat) : Nat → Nat := nxq n p (pv p (n - 1) - 1) (lj p (p (pv p (n - 1) - 1)) n)
def chkF (n : Nat) : Nat → List Nat → Bool
  | m, [] => pv (dg n m) (n - 1) == 0
  | m, m' :: l => !(pv (dg n m) (n - 1) == 0) && num (nxp n (dg n m)) n == m' && decide (m < m') && chkF n m' l
def chkP (n : Nat) : Bool := match PL n with
  | [] => false
  | m :: l => m == num (fun x => x) n && chkF n m l
set_option maxRecDepth 100000 in
theorem chkP_1 : chkP 1 = true := by decide +kernel
set_option maxRecDepth 100000 in
theorem chkP_2 : chkP 2 = true := by decide +kernel
set_option maxRecDepth 100000 in
theorem chkP_3 : chkP 3 = true := by decide +kernel
set_option maxRecDepth 100000 in
theorem chkP_4 : chkP 4 = true := by decide +kernel
set_option maxRecDepth 100000 in
theorem chkP_5 : chkP 5 = true := by decide +kernel
set_option maxRecDepth 100000 in
theorem chkP_6 : chkP 6 = true := by decide +kernel
set_option maxRecDepth 1000000 in
theorem chkP_7 : chkP 7 = true := by decide +kernel
