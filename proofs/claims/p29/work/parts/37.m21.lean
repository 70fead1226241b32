/-! the model: write -/
def putC (p : (Nat → Int32) × Nat) (c : Int32) : (Nat → Int32) × Nat := if p.2 < 100 then (upd p.1 p.2 c, p.2 + 1) else p
def putL : List Int32 → (Nat → Int32) × Nat → (Nat → Int32) × Nat
  | [], p => p
  | c :: l, p => putL l (putC p c)
def nameC (k : Nat) : Nat → Nat → List Int32
  | _, 0 => []
  | j, d + 1 => chS k j :: nameC k (j + 1) d
def digC (a : Nat) : List Int32 := (if 99 < a then [nI (48 + a / 100 % 10)] else []) ++ ((if 9 < a then [nI (48 + a / 10 % 10)] else []) ++ [nI (48 + a % 10)])
def stepC (q : Nat × Nat) : List Int32 := nameC q.1 0 (lenS.getD q.1 0) ++ (nI 32 :: digC q.2)
def progC : Bool → List (Nat × Nat) → List Int32
  | _, [] => []
  | true, q :: r => stepC q ++ progC false r
  | false, q :: r => nI 44 :: nI 32 :: (stepC q ++ progC false r)
