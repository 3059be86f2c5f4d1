/-! player, team -/
def tmP (m : Mem) (t : Int32) : Nat → Int32
  | 0 => 0
  | j + 1 => tmP m t j + (if m 68 j = t then m 70 j else 0)
