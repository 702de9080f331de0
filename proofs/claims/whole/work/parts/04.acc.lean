/-! the tables, read -/
abbrev ix (i : Int32) : Nat := i.toNatClampNeg
def fk (t k : Nat) : Nat := (fkL.getD t []).getD k 0
def fld (own idx : Nat) : Option (Nat × Nat × Nat) := lk2 fldL own idx
def mth (own idx : Nat) : Option (Nat × Nat) := lk2 mthL own idx
def clk (own idx : Nat) : Option Nat := lk2 clkL own idx
def mrow (y : Nat) : MRow := (mtl.getD (y / 40) []).getD (y % 40) (⟨"", "", ""⟩, ⟨#[]⟩, 0, none, 0, 0, 0, 0, [])
abbrev mNm (y : Nat) : MethodName := (mrow y).1
abbrev mBy (y : Nat) : ByteArray := (mrow y).2.1
abbrev mLo (y : Nat) : Nat := (mrow y).2.2.1
abbrev mRt (y : Nat) : Option FieldType := (mrow y).2.2.2.1
abbrev mOw (y : Nat) : Nat := (mrow y).2.2.2.2.1
abbrev mPa (y : Nat) : Nat := (mrow y).2.2.2.2.2.1
abbrev mKi (y : Nat) : Nat := (mrow y).2.2.2.2.2.2.1
abbrev mRc (y : Nat) : Nat := (mrow y).2.2.2.2.2.2.2.1
abbrev mCo (y : Nat) : List (Nat × Instr) := (mrow y).2.2.2.2.2.2.2.2
