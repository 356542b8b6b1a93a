def tX4_turn : List (Nat × TW) := [(10, ("java/lang/IllegalArgumentException", 57, 59, 61, "the text is not in cycles", false)), (34, ("java/lang/IndexOutOfBoundsException", 71, 73, 75, "a number is no place", false)), (54, ("java/lang/IllegalStateException", 79, 81, 83, "a place is there twice", false)), (72, ("java/lang/UnsupportedOperationException", 87, 89, 91, "there are five turns", false))]
theorem twX4_turn : tX4_turn.all (twOK oX4.1 cX4_turn) = true := by decide +kernel
def tX4_move : List (Nat × TW) := [(14, ("java/lang/IndexOutOfBoundsException", 71, 112, 75, "there is no such move", false))]
theorem twX4_move : tX4_move.all (twOK oX4.1 cX4_move) = true := by decide +kernel
def tX4_rank : List (Nat × TW) := [(14, ("java/lang/IllegalStateException", 79, 144, 83, "the arrangement is not reachable", false))]
theorem twX4_rank : tX4_rank.all (twOK oX4.1 cX4_rank) = true := by decide +kernel
def tX4_unrank : List (Nat × TW) := [(19, ("java/util/NoSuchElementException", 150, 152, 154, "there is no such rank", false))]
def tX4_solve : List (Nat × TW) := [(21, ("java/lang/IllegalStateException", 79, 144, 83, "the arrangement is not reachable", false))]
theorem twX4_solve : tX4_solve.all (twOK oX4.1 cX4_solve) = true := by decide +kernel
def tX4_within : List (Nat × TW) := [(9, ("java/lang/IllegalArgumentException", 57, 189, 61, "the limit is not 0 .. 4", false))]
theorem twX4_within : tX4_within.all (twOK oX4.1 cX4_within) = true := by decide +kernel
def tX4_requireTurn : List (Nat × TW) := [(12, ("java/lang/IndexOutOfBoundsException", 71, 218, 75, "there is no such turn", false))]
theorem twX4_requireTurn : tX4_requireTurn.all (twOK oX4.1 cX4_requireTurn) = true := by decide +kernel
def tX4_requireSticker : List (Nat × TW) := [(12, ("java/lang/IndexOutOfBoundsException", 71, 220, 75, "there is no such sticker or place", false))]
theorem twX4_requireSticker : tX4_requireSticker.all (twOK oX4.1 cX4_requireSticker) = true := by decide +kernel
def tX4_requireFewArrangements : List (Nat × TW) := [(15, ("java/lang/UnsupportedOperationException", 87, 224, 91, "more than 1500 arrangements are reachable", false))]
theorem twX4_requireFewArrangements : tX4_requireFewArrangements.all (twOK oX4.1 cX4_requireFewArrangements) = true := by decide +kernel
