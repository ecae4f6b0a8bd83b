/-! ===== what holds of both between two calls ===== -/
def zRg (hs : List zSt) (nx : Nat) (sl : Nat → Int32 × (Nat → Int32)) : Prop := ∀ i X, hs[i]? = some X → RC X (sl ((nx + 3 - i) % 4)).1 (sl ((nx + 3 - i) % 4)).2
def zSl (n0 n1 n2 n3 : Int32) (c0 c1 c2 c3 : Nat → Int32) (j : Nat) : Int32 × (Nat → Int32) := if j = 0 then (n0, c0) else if j = 1 then (n1, c1) else if j = 2 then (n2, c2) else (n3, c3)
def zQ0 (S : zSt) (hs : List zSt) (nx L : Nat) (T : Nat → Int) : Prop := okS S ∧ hs.length ≤ 4 ∧ (∀ X, X ∈ hs → okS X) ∧ nx < 4 ∧ L ≤ 600 ∧ ∀ i, i < L → 0 ≤ T i ∧ T i ≤ 127
def zTx (L : Nat) (T : Nat → Int) (n : Int32) (f : Nat → Int32) : Prop := n = iI L ∧ ∀ i, i < L → f i = iI (T i)
section ZMQ
variable {N : Nat} {K : zKT}
end ZMQ
