/-! LEAVES: contracts of methods of ints alone -/
def bi (b : Bool) : Int32 := match b with
  | true => 1
  | false => 0
def inS (lo hi x : Int32) : Bool := !decide (x < lo) && !decide (hi < x)
def sortS (t : Int32) : Int32 := if 2 ≤ t then (if 7 ≤ t then 0 else 2) else 1
def absS (x : Int32) : Int32 := if 0 ≤ x then x else -x
def famS (k : Int32) : Int32 := if k = 0 then -1 else if 3 ≤ k then (if 7 ≤ k then (if 16 ≤ k then (if 19 ≤ k then (if 21 ≤ k then (if 24 ≤ k then 6 else 5) else 4) else 3) else 1) else 2) else 0
theorem s86 {d : Nat} {x : Int32} {h : Hp} {K : Int32 → Hp → Prop} (k : K (bi (!decide (x < 0) && !decide (4 ≤ x))) h) : CI (d + 1) 86 [vI x] h K := by
  intro P hP
  refine v86 hP x h ⟨fun c => ⟨_, rfl, ?_⟩, fun c => ⟨fun c2 => ⟨_, rfl, ?_⟩, fun c2 => ⟨_, rfl, ?_⟩⟩⟩
  · simpa [bi, c] using k
  · simpa [bi, c, c2] using k
  · simpa [bi, c, c2] using k
theorem s94 {d : Nat} {x : Int32} {h : Hp} {K : Int32 → Hp → Prop} (k : K (bi (!decide (x < 0) && !decide (4 ≤ x))) h) : CI (d + 1) 94 [vI x] h K := by
  intro P hP
  refine v94 hP x h ⟨fun c => ⟨_, rfl, ?_⟩, fun c => ⟨fun c2 => ⟨_, rfl, ?_⟩, fun c2 => ⟨_, rfl, ?_⟩⟩⟩
  · simpa [bi, c] using k
  · simpa [bi, c, c2] using k
  · simpa [bi, c, c2] using k
theorem s175 {d : Nat} {x : Int32} {h : Hp} {K : Int32 → Hp → Prop} (k : K (bi (!decide (x < 0) && !decide (4 ≤ x))) h) : CI (d + 1) 175 [vI x] h K := by
  intro P hP
  refine v175 hP x h ⟨fun c => ⟨_, rfl, ?_⟩, fun c => ⟨fun c2 => ⟨_, rfl, ?_⟩, fun c2 => ⟨_, rfl, ?_⟩⟩⟩
  · simpa [bi, c] using k
  · simpa [bi, c, c2] using k
  · simpa [bi, c, c2] using k
theorem s90 {d : Nat} {x : Int32} {h : Hp} {K : Int32 → Hp → Prop} (k : K (bi (inS 16 29 x)) h) : CI (d + 1) 90 [vI x] h K := by
  intro P hP
  refine v90 hP x h ⟨fun c => ⟨_, rfl, ?_⟩, fun c => ⟨fun c2 => ⟨_, rfl, ?_⟩, fun c2 => ⟨_, rfl, ?_⟩⟩⟩
  · simpa [bi, inS, c] using k
  · simpa [bi, inS, c, c2] using k
  · simpa [bi, inS, c, c2] using k
theorem s127 {d : Nat} {x : Int32} {h : Hp} {K : Int32 → Hp → Prop} (k : K (bi (inS 97 122 x)) h) : CI (d + 1) 127 [vI x] h K := by
  intro P hP
  refine v127 hP x h ⟨fun c => ⟨_, rfl, ?_⟩, fun c => ⟨fun c2 => ⟨_, rfl, ?_⟩, fun c2 => ⟨_, rfl, ?_⟩⟩⟩
  · simpa [bi, inS, c] using k
  · simpa [bi, inS, c, c2] using k
  · simpa [bi, inS, c, c2] using k
theorem s128 {d : Nat} {x : Int32} {h : Hp} {K : Int32 → Hp → Prop} (k : K (bi (inS 48 57 x)) h) : CI (d + 1) 128 [vI x] h K := by
  intro P hP
  refine v128 hP x h ⟨fun c => ⟨_, rfl, ?_⟩, fun c => ⟨fun c2 => ⟨_, rfl, ?_⟩, fun c2 => ⟨_, rfl, ?_⟩⟩⟩
  · simpa [bi, inS, c] using k
  · simpa [bi, inS, c, c2] using k
  · simpa [bi, inS, c, c2] using k
theorem s102 {d : Nat} {x : Int32} {h : Hp} {K : Int32 → Hp → Prop} (k : K (sortS x) h) : CI (d + 1) 102 [vI x] h K := by
  intro P hP
  refine v102 hP x h ⟨fun c => ⟨fun c2 => ⟨_, rfl, ?_⟩, fun c2 => ⟨_, rfl, ?_⟩⟩, fun c => ⟨_, rfl, ?_⟩⟩
  · simpa [sortS, c, c2] using k
  · simpa [sortS, c, c2] using k
  · simpa [sortS, c] using k
theorem s197 {d : Nat} {x : Int32} {h : Hp} {K : Int32 → Hp → Prop} (k : K (absS x) h) : CI (d + 1) 197 [vI x] h K := by
  intro P hP
  refine v197 hP x h ⟨fun c => ⟨_, rfl, ?_⟩, fun c => ⟨_, rfl, ?_⟩⟩
  · simpa [absS, c] using k
  · simpa [absS, c] using k
theorem s124 {d : Nat} {x y : Int32} {h : Hp} {K : Int32 → Hp → Prop} (k : K ((x * 7 + y) * 9) h) : CI (d + 1) 124 [vI x, vI y] h K := fun P hP => v124 hP x y h ⟨_, rfl, k⟩
theorem s105 {d o b : Nat} {h : Hp} {K : Int32 → Hp → Prop} (e : jR h 10 o 8 = some b) (k : K (jI h 0 b 4) h) : CI (d + 1) 105 [vR 10 (some o)] h K := fun P hP => v105 hP o h (dr_of e ⟨_, rfl, k⟩)
theorem s194 {d o : Nat} {h : Hp} {K : Int32 → Hp → Prop} (k : K (jI h 11 o 32) h) : CI (d + 1) 194 [vR 11 (some o)] h K := fun P hP => v194 hP o h ⟨_, rfl, k⟩
