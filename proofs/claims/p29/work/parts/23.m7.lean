/-! the model: counts, the text by place, steps by place, sums, what is kept -/
/-- what 'count' answers -/
def countR (N : Nat → Int32) (st len : Nat) (x : Int32) : Int32 := if x = nI 0 then N 0 else if x = nI 1 then N 1 else if x = nI 2 then N 7 else if x = nI 3 then N 3 else if x = nI 4 then N 4 else if x = nI 5 then N 5 else if x = nI 6 then nI st else if x = nI 7 then nI len else if x = nI 8 then N 6 else -1
def weightR (N : Nat → Int32) : Int64 := (1000000000 : Int64) * Int32.toInt64 (N 19) + Int32.toInt64 (N 18)
/-- where a kept pallet lies -/
def keptB (dn i : Nat) : Nat := 212 + 64 * ((dn - 1 - i) % 6)
