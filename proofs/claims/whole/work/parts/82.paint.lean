/-! points: what covers them -/
theorem abs_e (x : Int32) : ab1 x = absS x := by
  unfold ab1 absS
  rw [Int32.zero_sub]
theorem le_lt1 (a x : Int32) : (60 ≤ x ↔ 59 < x) ∧ (x < 72 ↔ x ≤ 71) := by
  simp only [Int32.lt_iff_toInt_lt, Int32.le_iff_toInt_le, Int32.reduceToInt]
  omega
def insS (x y : Int32) : Bool := !decide (x < 0) && (!decide (60 ≤ x) && (!decide (y < 0) && (decide (y < 72) && (decide (y < 36) || !decide (59 - (((y - 36) * (y - 36)) / 22) < absS ((2 * x) - 59))))))
theorem s214 {d : Nat} {x y : Int32} {h : Hp} {K : Int32 → Hp → Prop} (k : K (bi (insS x y)) h) : CI (d + 1) 214 [vI x, vI y] h K := by
  intro P hP
  refine v214 hP x y h ?_
  rw [abs_e]
  unfold insS at k
  refine ⟨fun c1 => ⟨_, rfl, ?_⟩, fun c1 => ⟨fun c2 => ⟨_, rfl, ?_⟩, fun c2 => ⟨fun c3 => ⟨_, rfl, ?_⟩, fun c3 => ⟨fun c4 => ⟨fun c5 => ⟨_, rfl, ?_⟩, fun c5 => ⟨fun c6 => ⟨_, rfl, ?_⟩, fun c6 => ⟨_, rfl, ?_⟩⟩⟩, fun c4 => ⟨_, rfl, ?_⟩⟩⟩⟩⟩
  · simpa [bi, c1] using k
  · simpa [bi, c1, c2] using k
  · simpa [bi, c1, c2, c3] using k
  · simpa [bi, c1, c2, c3, c4, c5] using k
  · simpa [bi, c1, c2, c3, c4, c5, c6] using k
  · simpa [bi, c1, c2, c3, c4, c5, c6] using k
  · simpa [bi, c1, c2, c3, c4] using k
theorem s196 {d : Nat} {x y : Int32} {h : Hp} {K : Int32 → Hp → Prop} (k : K (bi (insS x y)) h) : CI (d + 2) 196 [vI x, vI y] h K := by
  intro P hP
  unfold insS at k
  have e1 : decide (60 ≤ x) = decide (59 < x) := decide_eq_decide.mpr (le_lt1 0 x).1
  have e2 : decide (y < 72) = decide (y ≤ 71) := decide_eq_decide.mpr (le_lt1 0 y).2
  rw [e1, e2] at k
  refine v196 hP x y h ⟨fun c1 => ⟨_, rfl, ?_⟩, fun c1 => ⟨fun c2 => ⟨_, rfl, ?_⟩, fun c2 => ⟨fun c3 => ⟨_, rfl, ?_⟩, fun c3 => ⟨fun c4 => ⟨fun c5 => ⟨_, rfl, ?_⟩, fun c5 => s197 ⟨fun c6 => ⟨_, rfl, ?_⟩, fun c6 => ⟨_, rfl, ?_⟩⟩⟩, fun c4 => ⟨_, rfl, ?_⟩⟩⟩⟩⟩
  · simpa [bi, c1] using k
  · simpa [bi, c1, c2] using k
  · simpa [bi, c1, c2, c3] using k
  · simpa [bi, c1, c2, c3, c4, c5] using k
  · simpa [bi, c1, c2, c3, c4, c5, c6] using k
  · simpa [bi, c1, c2, c3, c4, c5, c6] using k
  · simpa [bi, c1, c2, c3, c4] using k
/-- an ordinary -/
def ordS (k : Nat) (u v : Int32) : Bool := if k = 8 then !decide (20 ≤ absS u) else if k = 9 then !decide (24 ≤ absS v) else if k = 10 then !decide (24 ≤ absS (u - v)) else if k = 11 then (!decide (20 ≤ absS (v - absS u)) && !decide (v ≤ -30)) else if k = 12 then (decide (absS u < 14) || !decide (14 ≤ absS v)) else if k = 13 then (decide (absS (u - v) < 18) || !decide (18 ≤ absS (u + v))) else if k = 14 then (!decide (71 - v ≤ 3 * absS u) && !decide (50 ≤ v)) else false
theorem s216 {d k : Nat} {u v : Int32} {h : Hp} {K : Int32 → Hp → Prop} (h1 : 8 ≤ k) (h2 : k ≤ 14) (kk : K (bi (ordS k u v)) h) : CI (d + 1) 216 [vI (nI k), vI u, vI v] h K := by
  intro P hP
  refine v216 hP (nI k) u v h ?_
  rw [abs_e, abs_e, abs_e, abs_e, abs_e]
  have hc : k = 8 ∨ k = 9 ∨ k = 10 ∨ k = 11 ∨ k = 12 ∨ k = 13 ∨ k = 14 := by omega
  rcases hc with rfl | rfl | rfl | rfl | rfl | rfl | rfl
  · refine ⟨fun _ => ⟨fun c => ⟨_, rfl, ?_⟩, fun c => ⟨_, rfl, ?_⟩⟩, fun z => absurd rfl z⟩
    · simpa [bi, ordS, c] using kk
    · simpa [bi, ordS, c] using kk
  · refine ⟨fun z => absurd z (by decide), fun _ => ⟨fun _ => ⟨fun c => ⟨_, rfl, ?_⟩, fun c => ⟨_, rfl, ?_⟩⟩, fun z => absurd rfl z⟩⟩
    · simpa [bi, ordS, c] using kk
    · simpa [bi, ordS, c] using kk
  · refine ⟨fun z => absurd z (by decide), fun _ => ⟨fun z => absurd z (by decide), fun _ => ⟨fun _ => ⟨fun c => ⟨_, rfl, ?_⟩, fun c => ⟨_, rfl, ?_⟩⟩, fun z => absurd rfl z⟩⟩⟩
    · simpa [bi, ordS, c] using kk
    · simpa [bi, ordS, c] using kk
  · refine ⟨fun z => absurd z (by decide), fun _ => ⟨fun z => absurd z (by decide), fun _ => ⟨fun z => absurd z (by decide), fun _ => ⟨fun _ => ⟨fun c => ⟨_, rfl, ?_⟩, fun c => ⟨fun c2 => ⟨_, rfl, ?_⟩, fun c2 => ⟨_, rfl, ?_⟩⟩⟩, fun z => absurd rfl z⟩⟩⟩⟩
    · simpa [bi, ordS, c] using kk
    · simpa [bi, ordS, c, c2] using kk
    · simpa [bi, ordS, c, c2] using kk
  · refine ⟨fun z => absurd z (by decide), fun _ => ⟨fun z => absurd z (by decide), fun _ => ⟨fun z => absurd z (by decide), fun _ => ⟨fun z => absurd z (by decide), fun _ => ⟨fun _ => ⟨fun c => ⟨_, rfl, ?_⟩, fun c => ⟨fun c2 => ⟨_, rfl, ?_⟩, fun c2 => ⟨_, rfl, ?_⟩⟩⟩, fun z => absurd rfl z⟩⟩⟩⟩⟩
    · simpa [bi, ordS, c] using kk
    · simpa [bi, ordS, c, c2] using kk
    · simpa [bi, ordS, c, c2] using kk
  · refine ⟨fun z => absurd z (by decide), fun _ => ⟨fun z => absurd z (by decide), fun _ => ⟨fun z => absurd z (by decide), fun _ => ⟨fun z => absurd z (by decide), fun _ => ⟨fun z => absurd z (by decide), fun _ => ⟨fun _ => ⟨fun c => ⟨_, rfl, ?_⟩, fun c => ⟨fun c2 => ⟨_, rfl, ?_⟩, fun c2 => ⟨_, rfl, ?_⟩⟩⟩, fun z => absurd rfl z⟩⟩⟩⟩⟩⟩
    · simpa [bi, ordS, c] using kk
    · simpa [bi, ordS, c, c2] using kk
    · simpa [bi, ordS, c, c2] using kk
  · refine ⟨fun z => absurd z (by decide), fun _ => ⟨fun z => absurd z (by decide), fun _ => ⟨fun z => absurd z (by decide), fun _ => ⟨fun z => absurd z (by decide), fun _ => ⟨fun z => absurd z (by decide), fun _ => ⟨fun z => absurd z (by decide), fun _ => ⟨fun _ => ⟨fun c => ⟨_, rfl, ?_⟩, fun c => ⟨fun c2 => ⟨_, rfl, ?_⟩, fun c2 => ⟨_, rfl, ?_⟩⟩⟩, fun z => absurd rfl z⟩⟩⟩⟩⟩⟩⟩
    · simpa [bi, ordS, c] using kk
    · simpa [bi, ordS, c, c2] using kk
    · simpa [bi, ordS, c, c2] using kk
