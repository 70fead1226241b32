/-! the model: history, laying aside, taking back, undo; rolls and pallets that go -/
/-- nothing stands behind a row's end -/
def Z596 (N : Nat → Int32) : Prop := ∀ j, 596 ≤ j → N j = 0
def pushH (H : List (Nat → Int32)) (N : Nat → Int32) : List (Nat → Int32) := (if H.length = 4 then H.tail else H) ++ [N]
