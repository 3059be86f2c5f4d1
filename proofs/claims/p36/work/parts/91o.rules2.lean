/-! rules as a call -/
def ruU (m : Mem) (a b c d e : Int32) : Mem := up2 (up2 (up2 (up2 (up2 m 67 1 a) 67 2 b) 67 3 c) 67 4 d) 67 5 e
