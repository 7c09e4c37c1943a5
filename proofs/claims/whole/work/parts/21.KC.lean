/-! The class's layout with what is known of the texts; rows that wait. -/
def sTx (s : Int) : List Int := if s = 0 then [110, 101, 101, 100] else if s = 1 then [109, 111, 115, 116] else if s = 2 then [111, 108, 100] else if s = 3 then [103, 111, 108, 100] else if s = 4 then [115, 108, 101, 101, 112] else if s = 5 then [107, 104, 100, 112, 118] else [60, 61, 62]
def sLen (s : Int) : Int := ((sTx s).length : Nat)
def sCh (s i : Int) : Int := ((sTx s)[i.toNat]?).getD 0
def KXC : Wd → State → Prop := fun _ _ => True
def LC : Lay := (clsC, lkfC, lffC, 16, KXC)
theorem KstC : Kst LC := fun _ _ _ _ _ _ => trivial
def LR : Lay := (clsR, lkfR, lffR, 999, fun _ _ => True)
theorem KstR : Kst LR := fun _ _ _ _ _ _ => trivial
