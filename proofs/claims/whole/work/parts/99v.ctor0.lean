/-! the common bodies as the class reads them -/
def txC : Nat → Int32 := fun j => (romB 33).getD j 0
theorem lenC : (romB 33).length ≤ 240 := by decide +kernel
theorem pckC : ∃ p, pckS txC (romB 33).length 13 [] 0 = (some Dcm, p) := ⟨(romB 33).length, by decide +kernel⟩
