/-! PURE FACTS: climbs over bits, decided over all of them -/
/-- the same as k x, but x is worked out first -/
def fc {α : Type} (x : Nat) (k : Nat → α) : α := match x + 1 with
  | 0 => k 0
  | n + 1 => k n
theorem fc_eq {α : Type} (x : Nat) (k : Nat → α) : fc x k = k x := rfl
def popc (n : Nat) : Nat := n % 2 + n / 2 % 2 + n / 4 % 2 + n / 8 % 2 + n / 16 % 2 + n / 32 % 2 + n / 64 % 2 + n / 128 % 2 + n / 256 % 2 + n / 512 % 2
def lowb (x : Nat) : Nat := x &&& (1024 - x)
def shN (a b : Nat) : Nat := if a = 0 then b else if b = 0 then a else if popc a < popc b then a else if popc b < popc a then b else if a &&& lowb (a ^^^ b) = 0 then b else a
/-- the shortest of the r newest (the newest first in the list), taken from the oldest on -/
def shF : Nat → List Nat → Nat
  | 0, _ => 0
  | _ + 1, [] => 0
  | r + 1, x :: L => fc (shF r L) (fun a => shN a x)
def pvR (t r i : Nat) (L : List Nat) : Nat := if t.testBit i then (if i < r then 2 ^ i else fc (shF r L) (fun a => if a = 0 then 0 else a ||| 2 ^ i)) else 0
def pR (t r : Nat) : Nat → List Nat
  | 0 => []
  | i + 1 => pvR t r i (pR t r i) :: pR t r i
def pGo (t r : Nat) : Nat → Nat → List Nat → List Nat
  | 0, _, L => L
  | n + 1, i, L => fc (pvR t r i L) (fun v => pGo t r n (i + 1) (v :: L))
theorem pGo_eq (t r : Nat) : ∀ n i, pGo t r n i (pR t r i) = pR t r (i + n)
  | 0, _ => rfl
  | n + 1, i => by
    show pGo t r n (i + 1) (pR t r (i + 1)) = _
    rw [pGo_eq t r n (i + 1)]
    congr 1
    omega
def mnF (t : Nat) : Nat → Nat → List Nat → Nat → Nat
  | 0, _, _, b => b
  | _ + 1, _, [], b => b
  | r + 1, pos, x :: L, b => fc (if t.testBit pos then 1 + x else 100) (fun n => fc (if n < b then n else b) (fun b => mnF t r (pos + 1) L b))
def fwL (t r top : Nat) : Nat → List Nat
  | 0 => [0]
  | j + 1 => mnF t r (top - j) (fwL t r top j) 100 :: fwL t r top j
def fGo (t r top : Nat) : Nat → Nat → List Nat → List Nat
  | 0, _, L => L
  | n + 1, j, L => fc (mnF t r (top - j) L 100) (fun v => fGo t r top n (j + 1) (v :: L))
theorem fGo_eq (t r top : Nat) : ∀ n j, fGo t r top n j (fwL t r top j) = fwL t r top (j + n)
  | 0, _ => rfl
  | n + 1, j => by
    show fGo t r top n (j + 1) (fwL t r top (j + 1)) = _
    rw [fGo_eq t r top n (j + 1)]
    congr 1
    omega
def grF (t : Nat) : List Nat → Nat → Nat → Nat
  | [], _, _ => 0
  | x :: L, pos, need => if t.testBit pos && x + 1 == need then (if need = 1 then 2 ^ pos else fc (grF t L (pos + 1) (need - 1)) (fun a => 2 ^ pos ||| a)) else grF t L (pos + 1) need
def sumR : Nat → List Nat → Nat
  | 0, _ => 0
  | _ + 1, [] => 0
  | r + 1, x :: L => fc (sumR r L) (fun a => a + x)
def cvR (t r i : Nat) (L : List Nat) : Nat := if t.testBit i then (if i < r then 1 else 0) + sumR r L else 0
def cR (t r : Nat) : Nat → List Nat
  | 0 => []
  | i + 1 => cvR t r i (cR t r i) :: cR t r i
def cGo (t r : Nat) : Nat → Nat → List Nat → List Nat
  | 0, _, L => L
  | n + 1, i, L => fc (cvR t r i L) (fun v => cGo t r n (i + 1) (v :: L))
theorem cGo_eq (t r : Nat) : ∀ n i, cGo t r n i (cR t r i) = cR t r (i + n)
  | 0, _ => rfl
  | n + 1, i => by
    show cGo t r n (i + 1) (cR t r (i + 1)) = _
    rw [cGo_eq t r n (i + 1)]
    congr 1
    omega
def sumF (t : Nat) : Nat → Nat → List Nat → Nat → Nat
  | 0, _, _, b => b
  | _ + 1, _, [], b => b
  | r + 1, pos, x :: L, b => fc (b + (if t.testBit pos then x else 0)) (fun b => sumF t r (pos + 1) L b)
def wyL (t r top : Nat) : Nat → List Nat
  | 0 => [1]
  | j + 1 => sumF t r (top - j) (wyL t r top j) 0 :: wyL t r top j
def wGo (t r top : Nat) : Nat → Nat → List Nat → List Nat
  | 0, _, L => L
  | n + 1, j, L => fc (sumF t r (top - j) L 0) (fun v => wGo t r top n (j + 1) (v :: L))
theorem wGo_eq (t r top : Nat) : ∀ n j, wGo t r top n j (wyL t r top j) = wyL t r top (j + n)
  | 0, _ => rfl
  | n + 1, j => by
    show wGo t r top n (j + 1) (wyL t r top (j + 1)) = _
    rw [wGo_eq t r top n (j + 1)]
    congr 1
    omega
def sGo (t sp : Nat) : Nat → Nat → Nat → Nat
  | 0, _, s => s
  | n + 1, i, s => fc (2 * s ||| (if t.testBit i && decide (s &&& sp ≠ 0) then 1 else 0)) (fun s => sGo t sp n (i + 1) s)
theorem sGo_eq (t sp : Nat) : ∀ n i, sGo t sp n i (stS t sp i) = stS t sp (i + n)
  | 0, _ => rfl
  | n + 1, i => by
    show sGo t sp n (i + 1) (stS t sp (i + 1)) = _
    rw [sGo_eq t sp n (i + 1)]
    congr 1
    omega
/-- the facts at one place; h: what getsHome says -/
def chk (t top p c : Nat) (h : Bool) (F Wy : List Nat) : Bool := (match F with
  | f :: L => (if f < 100 then grF t L 0 f == p && popc p == f && p != 0 else p == 0) && (h == (p != 0))
  | [] => false) && Wy.headD 0 == c && decide (p < 1024) && decide (c < 1024) && decide (p % 2 ^ (top + 1) = p)
def chkT (r top : Nat) : Nat → Bool
  | 0 => true
  | t + 1 => fc ((pGo t r (top + 1) 0 []).headD 0) (fun p => fc ((cGo t r (top + 1) 0 []).headD 0) (fun c => chk t top p c (sGo t (2 ^ r - 1) (top + 1) 0 1 % 2 == 1) (fGo t r top (top + 1) 0 [0]) (wGo t r top (top + 1) 0 [1]))) && chkT r top t
def chkTs (r : Nat) : Nat → Bool
  | 0 => true
  | n + 1 => chkT r n (2 ^ (n + 1)) && chkTs r n
theorem br1 : chkTs 1 10 = true := by decide +kernel
