def rPiece (num k f v s n : Int32) : Int32 := if k < 0 ∨ 3 < k ∨ f < 0 ∨ 5 < f ∨ s < 0 ∨ 2 < s then -1 else if v < 1 ∨ 200 < v ∨ n < 1 ∨ 9 < n then -2 else if num = 10 then -4 else num
def sNum (num k f v s n : Int32) : Int32 := if k < 0 ∨ 3 < k ∨ f < 0 ∨ 5 < f ∨ s < 0 ∨ 2 < s then num else if v < 1 ∨ 200 < v ∨ n < 1 ∨ 9 < n then num else if num = 10 then num else num + 1
