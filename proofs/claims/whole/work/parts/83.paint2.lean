/-! the field's second tincture, charges -/
def odS (n : Int32) : Bool := decide (n &&& 1 = 1)
theorem s223 {d : Nat} {n : Int32} {h : Hp} {K : Int32 → Hp → Prop} (k : K (bi (odS n)) h) : CI (d + 1) 223 [vI n] h K := by
  intro P hP
  unfold odS at k
  refine v223 hP n h ⟨fun c => ⟨_, rfl, ?_⟩, fun c => ⟨_, rfl, ?_⟩⟩
  · rw [decide_eq_false c] at k; exact k
  · rw [decide_eq_true (Classical.not_not.mp c)] at k; exact k
def secS (p : Nat) (x y : Int32) : Bool := if p = 1 then !decide ((2 * x) - 59 ≤ 0) else if p = 2 then !decide ((2 * y) - 71 ≤ 0) else if p = 3 then !decide ((2 * x) - 59 ≤ (2 * y) - 71) else if p = 4 then !decide ((2 * y) - 71 ≤ absS ((2 * x) - 59)) else if p = 5 then !decide (absS ((2 * x) - 59) ≤ absS ((2 * y) - 71)) else if p = 6 then (decide ((2 * x) - 59 ≤ 0) != decide ((2 * y) - 71 ≤ 0)) else if p = 7 then odS (x / 10) else if p = 8 then odS (y / 12) else if p = 9 then odS ((x + y) / 12) else if p = 10 then odS ((x / 10) + (y / 12)) else false
theorem nar (b : Bool) : narrow .boolean (.int (bi b)) = .int (bi b) := by cases b <;> decide
theorem s224 {d p : Nat} {x y : Int32} {h : Hp} {K : Int32 → Hp → Prop} (hp : p ≤ 10) (kk : K (bi (secS p x y)) h) : CI (d + 2) 224 [vI (nI p), vI x, vI y] h K := by
  intro P hP
  have L : ∀ b : Bool, secS p x y = b → ∃ z, some (vI (bi b)) = some (vI z) ∧ K z h := fun b e => ⟨_, rfl, by rw [← e]; exact kk⟩
  refine v224 hP (nI p) x y h ?_
  rw [abs_e, abs_e]
  have hc : p = 0 ∨ p = 1 ∨ p = 2 ∨ p = 3 ∨ p = 4 ∨ p = 5 ∨ p = 6 ∨ p = 7 ∨ p = 8 ∨ p = 9 ∨ p = 10 := by omega
  rcases hc with rfl | rfl | rfl | rfl | rfl | rfl | rfl | rfl | rfl | rfl | rfl
  · exact ⟨fun z => absurd z (by decide), fun _ => ⟨fun z => absurd z (by decide), fun _ => ⟨fun z => absurd z (by decide), fun _ => ⟨fun z => absurd z (by decide), fun _ => ⟨fun z => absurd z (by decide), fun _ => ⟨fun z => absurd z (by decide), fun _ => ⟨fun z => absurd z (by decide), fun _ => ⟨fun z => absurd z (by decide), fun _ => ⟨fun z => absurd z (by decide), fun _ => ⟨fun z => absurd z (by decide), fun _ => L false rfl⟩⟩⟩⟩⟩⟩⟩⟩⟩⟩
  · exact ⟨fun _ => ⟨fun c => L false (by simp [secS, c]), fun c => L true (by simp [secS, c])⟩, fun z => absurd rfl z⟩
  · exact ⟨fun z => absurd z (by decide), fun _ => ⟨fun _ => ⟨fun c => L false (by simp [secS, c]), fun c => L true (by simp [secS, c])⟩, fun z => absurd rfl z⟩⟩
  · exact ⟨fun z => absurd z (by decide), fun _ => ⟨fun z => absurd z (by decide), fun _ => ⟨fun _ => ⟨fun c => L false (by simp [secS, c]), fun c => L true (by simp [secS, c])⟩, fun z => absurd rfl z⟩⟩⟩
  · exact ⟨fun z => absurd z (by decide), fun _ => ⟨fun z => absurd z (by decide), fun _ => ⟨fun z => absurd z (by decide), fun _ => ⟨fun _ => ⟨fun c => L false (by simp [secS, c]), fun c => L true (by simp [secS, c])⟩, fun z => absurd rfl z⟩⟩⟩⟩
  · exact ⟨fun z => absurd z (by decide), fun _ => ⟨fun z => absurd z (by decide), fun _ => ⟨fun z => absurd z (by decide), fun _ => ⟨fun z => absurd z (by decide), fun _ => ⟨fun _ => ⟨fun c => L false (by simp [secS, c]), fun c => L true (by simp [secS, c])⟩, fun z => absurd rfl z⟩⟩⟩⟩⟩
  · exact ⟨fun z => absurd z (by decide), fun _ => ⟨fun z => absurd z (by decide), fun _ => ⟨fun z => absurd z (by decide), fun _ => ⟨fun z => absurd z (by decide), fun _ => ⟨fun z => absurd z (by decide), fun _ => ⟨fun _ => ⟨fun c => ⟨fun c2 => L false (by simp [secS, c, c2]), fun c2 => L true (by simp [secS, c, c2])⟩, fun c => ⟨fun c2 => L true (by simp [secS, c, c2]), fun c2 => L false (by simp [secS, c, c2])⟩⟩, fun z => absurd rfl z⟩⟩⟩⟩⟩⟩
  · exact ⟨fun z => absurd z (by decide), fun _ => ⟨fun z => absurd z (by decide), fun _ => ⟨fun z => absurd z (by decide), fun _ => ⟨fun z => absurd z (by decide), fun _ => ⟨fun z => absurd z (by decide), fun _ => ⟨fun z => absurd z (by decide), fun _ => ⟨fun _ => s223 ⟨nar _, L _ rfl⟩, fun z => absurd rfl z⟩⟩⟩⟩⟩⟩⟩
  · exact ⟨fun z => absurd z (by decide), fun _ => ⟨fun z => absurd z (by decide), fun _ => ⟨fun z => absurd z (by decide), fun _ => ⟨fun z => absurd z (by decide), fun _ => ⟨fun z => absurd z (by decide), fun _ => ⟨fun z => absurd z (by decide), fun _ => ⟨fun z => absurd z (by decide), fun _ => ⟨fun _ => s223 ⟨nar _, L _ rfl⟩, fun z => absurd rfl z⟩⟩⟩⟩⟩⟩⟩⟩
  · exact ⟨fun z => absurd z (by decide), fun _ => ⟨fun z => absurd z (by decide), fun _ => ⟨fun z => absurd z (by decide), fun _ => ⟨fun z => absurd z (by decide), fun _ => ⟨fun z => absurd z (by decide), fun _ => ⟨fun z => absurd z (by decide), fun _ => ⟨fun z => absurd z (by decide), fun _ => ⟨fun z => absurd z (by decide), fun _ => ⟨fun _ => s223 ⟨nar _, L _ rfl⟩, fun z => absurd rfl z⟩⟩⟩⟩⟩⟩⟩⟩⟩
  · exact ⟨fun z => absurd z (by decide), fun _ => ⟨fun z => absurd z (by decide), fun _ => ⟨fun z => absurd z (by decide), fun _ => ⟨fun z => absurd z (by decide), fun _ => ⟨fun z => absurd z (by decide), fun _ => ⟨fun z => absurd z (by decide), fun _ => ⟨fun z => absurd z (by decide), fun _ => ⟨fun z => absurd z (by decide), fun _ => ⟨fun z => absurd z (by decide), fun _ => ⟨fun _ => s223 ⟨nar _, L _ rfl⟩, fun z => absurd rfl z⟩⟩⟩⟩⟩⟩⟩⟩⟩⟩
/-- fieldAt(k, x, y) -/
theorem s203 {d k p : Nat} {x y : Int32} {sh : Nat → Int32} {h : Hp} {K : Int32 → Hp → Prop} (S : RSh h) (Q : RsK h k sh) (ep : sh 0 = nI p) (hp : p ≤ 10) (kk : K (if secS p x y = true then sh 2 else sh 1) h) : CI (d + 2) 203 [vR 11 (some 0), vI (nI k), vI x, vI y] h K := by
  intro P hP
  have hk := Q.1
  have ik : ix (nI k) = k := nI_clamp (by omega)
  have L : ∀ b : Bool, secS p x y = b → P 289 [vR 11 (some 0), vI (nI k), vI x, vI y, vI ((2 * x) - 59), vI ((2 * y) - 71), vI (bi b)] [] h := by
    intro b e
    rw [e] at kk
    refine v203_289 hP 0 (nI k) x y _ _ (bi b) h ⟨fun c => dr_of S.r13 ⟨vp61 (by omega) S.n13, v203_309 hP 0 _ _ _ _ _ _ _ h ⟨_, rfl, ?_⟩⟩, fun c => dr_of S.r14 ⟨vp61 (by omega) S.n14, v203_309 hP 0 _ _ _ _ _ _ _ h ⟨_, rfl, ?_⟩⟩⟩
    · rw [ik, Q.2.2.1]
      cases b with
      | false => exact kk
      | true => exact absurd c (by decide)
    · rw [ik, Q.2.2.2.1]
      cases b with
      | false => exact absurd rfl c
      | true => exact kk
  refine v203 hP 0 (nI k) x y h (dr_of S.r12 ⟨vp61 (by omega) S.n12, ?_⟩)
  rw [ik, Q.2.1, ep]
  have hc : p = 0 ∨ p = 1 ∨ p = 2 ∨ p = 3 ∨ p = 4 ∨ p = 5 ∨ p = 6 ∨ p = 7 ∨ p = 8 ∨ p = 9 ∨ p = 10 := by omega
  rcases hc with rfl | rfl | rfl | rfl | rfl | rfl | rfl | rfl | rfl | rfl | rfl
  · exact ⟨fun _ => L false rfl, fun z => absurd rfl z⟩
  · exact ⟨fun z => absurd z (by decide), fun _ => ⟨fun _ => ⟨fun c => v203_92 hP 0 _ _ _ _ _ _ h (L false (by simp [secS, c])), fun c => v203_92 hP 0 _ _ _ _ _ _ h (L true (by simp [secS, c]))⟩, fun z => absurd rfl z⟩⟩
  · exact ⟨fun z => absurd z (by decide), fun _ => ⟨fun z => absurd z (by decide), fun _ => ⟨fun _ => ⟨fun c => v203_107 hP 0 _ _ _ _ _ _ h (L false (by simp [secS, c])), fun c => v203_107 hP 0 _ _ _ _ _ _ h (L true (by simp [secS, c]))⟩, fun z => absurd rfl z⟩⟩⟩
  · exact ⟨fun z => absurd z (by decide), fun _ => ⟨fun z => absurd z (by decide), fun _ => ⟨fun z => absurd z (by decide), fun _ => ⟨fun _ => ⟨fun c => v203_124 hP 0 _ _ _ _ _ _ h (L false (by simp [secS, c])), fun c => v203_124 hP 0 _ _ _ _ _ _ h (L true (by simp [secS, c]))⟩, fun z => absurd rfl z⟩⟩⟩⟩
  · exact ⟨fun z => absurd z (by decide), fun _ => ⟨fun z => absurd z (by decide), fun _ => ⟨fun z => absurd z (by decide), fun _ => ⟨fun z => absurd z (by decide), fun _ => ⟨fun _ => s197 ⟨fun c => v203_144 hP 0 _ _ _ _ _ _ h (L false (by simp [secS, c])), fun c => v203_144 hP 0 _ _ _ _ _ _ h (L true (by simp [secS, c]))⟩, fun z => absurd rfl z⟩⟩⟩⟩⟩
  · exact ⟨fun z => absurd z (by decide), fun _ => ⟨fun z => absurd z (by decide), fun _ => ⟨fun z => absurd z (by decide), fun _ => ⟨fun z => absurd z (by decide), fun _ => ⟨fun z => absurd z (by decide), fun _ => ⟨fun _ => s197 (s197 ⟨fun c => v203_167 hP 0 _ _ _ _ _ _ h (L false (by simp [secS, c])), fun c => v203_167 hP 0 _ _ _ _ _ _ h (L true (by simp [secS, c]))⟩), fun z => absurd rfl z⟩⟩⟩⟩⟩⟩
  · exact ⟨fun z => absurd z (by decide), fun _ => ⟨fun z => absurd z (by decide), fun _ => ⟨fun z => absurd z (by decide), fun _ => ⟨fun z => absurd z (by decide), fun _ => ⟨fun z => absurd z (by decide), fun _ => ⟨fun z => absurd z (by decide), fun _ => ⟨fun _ => ⟨fun c => v203_182 hP 0 _ _ _ _ _ _ h ⟨fun c2 => v203_192 hP 0 _ _ _ _ _ 0 0 h ⟨fun _ => v203_200 hP 0 _ _ _ _ _ _ h (L false (by simp [secS, c, c2])), fun z => absurd rfl z⟩, fun c2 => v203_192 hP 0 _ _ _ _ _ 1 0 h ⟨fun z => absurd z (by decide), fun _ => v203_200 hP 0 _ _ _ _ _ _ h (L true (by simp [secS, c, c2]))⟩⟩, fun c => v203_182 hP 0 _ _ _ _ _ _ h ⟨fun c2 => v203_192 hP 0 _ _ _ _ _ 0 1 h ⟨fun z => absurd z (by decide), fun _ => v203_200 hP 0 _ _ _ _ _ _ h (L true (by simp [secS, c, c2]))⟩, fun c2 => v203_192 hP 0 _ _ _ _ _ 1 1 h ⟨fun _ => v203_200 hP 0 _ _ _ _ _ _ h (L false (by simp [secS, c, c2])), fun z => absurd rfl z⟩⟩⟩, fun z => absurd rfl z⟩⟩⟩⟩⟩⟩⟩
  · exact ⟨fun z => absurd z (by decide), fun _ => ⟨fun z => absurd z (by decide), fun _ => ⟨fun z => absurd z (by decide), fun _ => ⟨fun z => absurd z (by decide), fun _ => ⟨fun z => absurd z (by decide), fun _ => ⟨fun z => absurd z (by decide), fun _ => ⟨fun z => absurd z (by decide), fun _ => ⟨fun _ => ⟨fun c => v203_220 hP 0 _ _ _ _ _ _ h (L false (by simp [secS, odS, c])), fun c => v203_220 hP 0 _ _ _ _ _ _ h (L true (by simp [secS, odS, Classical.not_not.mp c]))⟩, fun z => absurd rfl z⟩⟩⟩⟩⟩⟩⟩⟩
  · exact ⟨fun z => absurd z (by decide), fun _ => ⟨fun z => absurd z (by decide), fun _ => ⟨fun z => absurd z (by decide), fun _ => ⟨fun z => absurd z (by decide), fun _ => ⟨fun z => absurd z (by decide), fun _ => ⟨fun z => absurd z (by decide), fun _ => ⟨fun z => absurd z (by decide), fun _ => ⟨fun z => absurd z (by decide), fun _ => ⟨fun _ => ⟨fun c => v203_240 hP 0 _ _ _ _ _ _ h (L false (by simp [secS, odS, c])), fun c => v203_240 hP 0 _ _ _ _ _ _ h (L true (by simp [secS, odS, Classical.not_not.mp c]))⟩, fun z => absurd rfl z⟩⟩⟩⟩⟩⟩⟩⟩⟩
  · exact ⟨fun z => absurd z (by decide), fun _ => ⟨fun z => absurd z (by decide), fun _ => ⟨fun z => absurd z (by decide), fun _ => ⟨fun z => absurd z (by decide), fun _ => ⟨fun z => absurd z (by decide), fun _ => ⟨fun z => absurd z (by decide), fun _ => ⟨fun z => absurd z (by decide), fun _ => ⟨fun z => absurd z (by decide), fun _ => ⟨fun z => absurd z (by decide), fun _ => ⟨fun _ => ⟨fun c => v203_262 hP 0 _ _ _ _ _ _ h (L false (by simp [secS, odS, c])), fun c => v203_262 hP 0 _ _ _ _ _ _ h (L true (by simp [secS, odS, Classical.not_not.mp c]))⟩, fun z => absurd rfl z⟩⟩⟩⟩⟩⟩⟩⟩⟩⟩
  · exact ⟨fun z => absurd z (by decide), fun _ => ⟨fun z => absurd z (by decide), fun _ => ⟨fun z => absurd z (by decide), fun _ => ⟨fun z => absurd z (by decide), fun _ => ⟨fun z => absurd z (by decide), fun _ => ⟨fun z => absurd z (by decide), fun _ => ⟨fun z => absurd z (by decide), fun _ => ⟨fun z => absurd z (by decide), fun _ => ⟨fun z => absurd z (by decide), fun _ => ⟨fun z => absurd z (by decide), fun _ => ⟨fun c => v203_287 hP 0 _ _ _ _ _ _ h (L false (by simp [secS, odS, c])), fun c => v203_287 hP 0 _ _ _ _ _ _ h (L true (by simp [secS, odS, Classical.not_not.mp c]))⟩⟩⟩⟩⟩⟩⟩⟩⟩⟩⟩
theorem bo0 {b : Bool} : bi b = 0 ↔ b = false := by cases b <;> decide
theorem bo1 {b : Bool} : ¬ bi b = 0 ↔ b = true := by cases b <;> decide
def thS (k : Nat) (h d e : Int32) : Bool := if k = 24 then (decide (absS d + absS e < h) || (!decide (h / 2 ≤ absS d) && !decide (h / 2 ≤ absS e))) else if k = 25 then (!decide (h * h ≤ (d * d) + (e * e)) && !decide ((d * d) + ((e + (h / 2)) * (e + (h / 2))) < (h * h) / 2)) else if k = 26 then (!decide (h * h ≤ (d * d) + (e * e)) && !decide ((d * d) + (e * e) < (h * h) / 4)) else if k = 27 then !decide (h * h ≤ (d * d) + (e * e)) else if k = 28 then (!decide (h ≤ 2 * absS d) && !decide (h ≤ absS e)) else if k = 29 then (!decide (h ≤ absS d) && (!decide (h ≤ absS e) && (decide (0 < e) || odS ((d + 64) / 4)))) else (!decide (h ≤ absS d) && (decide (absS e < 2) || (!decide (e ≤ 0) && odS ((d + 64) / 4))))
theorem s222 {d k : Nat} {a b c : Int32} {h : Hp} {K : Int32 → Hp → Prop} (h1 : 24 ≤ k) (h2 : k ≤ 30) (kk : K (bi (thS k a b c)) h) : CI (d + 2) 222 [vI (nI k), vI a, vI b, vI c] h K := by
  intro P hP
  have L : ∀ t : Bool, thS k a b c = t → narrow .boolean (.int (bi t)) = .int (bi t) ∧ ∃ z, some (vI (bi t)) = some (vI z) ∧ K z h := fun t e => ⟨nar t, _, rfl, by rw [← e]; exact kk⟩
  refine v222 hP (nI k) a b c h ?_
  rw [abs_e, abs_e]
  have hc : k = 24 ∨ k = 25 ∨ k = 26 ∨ k = 27 ∨ k = 28 ∨ k = 29 ∨ k = 30 := by omega
  rcases hc with rfl | rfl | rfl | rfl | rfl | rfl | rfl
  · exact ⟨fun _ => ⟨fun c1 => v222_97 hP _ _ _ _ _ _ _ _ h (v222_102 hP _ _ _ _ _ _ _ _ _ h (L true (by simp [thS, c1]))), fun c1 => ⟨fun c2 => v222_101 hP _ _ _ _ _ _ _ _ h (v222_102 hP _ _ _ _ _ _ _ _ _ h (L false (by simp [thS, c1, c2]))), fun c2 => ⟨fun c3 => v222_101 hP _ _ _ _ _ _ _ _ h (v222_102 hP _ _ _ _ _ _ _ _ _ h (L false (by simp [thS, c1, c2, c3]))), fun c3 => v222_97 hP _ _ _ _ _ _ _ _ h (v222_102 hP _ _ _ _ _ _ _ _ _ h (L true (by simp [thS, c1, c2, c3])))⟩⟩⟩, fun z => absurd rfl z⟩
  · exact ⟨fun z => absurd z (by decide), fun _ => ⟨fun _ => ⟨fun c1 => v222_132 hP _ _ _ _ _ _ _ _ h (v222_133 hP _ _ _ _ _ _ _ _ _ h (L false (by simp [thS, c1]))), fun c1 => ⟨fun c2 => v222_132 hP _ _ _ _ _ _ _ _ h (v222_133 hP _ _ _ _ _ _ _ _ _ h (L false (by simp [thS, c1, c2]))), fun c2 => v222_133 hP _ _ _ _ _ _ _ _ _ h (L true (by simp [thS, c1, c2]))⟩⟩, fun z => absurd rfl z⟩⟩
  · exact ⟨fun z => absurd z (by decide), fun _ => ⟨fun z => absurd z (by decide), fun _ => ⟨fun _ => ⟨fun c1 => v222_156 hP _ _ _ _ _ _ _ _ h (v222_157 hP _ _ _ _ _ _ _ _ _ h (L false (by simp [thS, c1]))), fun c1 => ⟨fun c2 => v222_156 hP _ _ _ _ _ _ _ _ h (v222_157 hP _ _ _ _ _ _ _ _ _ h (L false (by simp [thS, c1, c2]))), fun c2 => v222_157 hP _ _ _ _ _ _ _ _ _ h (L true (by simp [thS, c1, c2]))⟩⟩, fun z => absurd rfl z⟩⟩⟩
  · exact ⟨fun z => absurd z (by decide), fun _ => ⟨fun z => absurd z (by decide), fun _ => ⟨fun z => absurd z (by decide), fun _ => ⟨fun _ => ⟨fun c1 => v222_171 hP _ _ _ _ _ _ _ _ _ h (L false (by simp [thS, c1])), fun c1 => v222_171 hP _ _ _ _ _ _ _ _ _ h (L true (by simp [thS, c1]))⟩, fun z => absurd rfl z⟩⟩⟩⟩
  · exact ⟨fun z => absurd z (by decide), fun _ => ⟨fun z => absurd z (by decide), fun _ => ⟨fun z => absurd z (by decide), fun _ => ⟨fun z => absurd z (by decide), fun _ => ⟨fun _ => ⟨fun c1 => v222_190 hP _ _ _ _ _ _ _ _ h (v222_191 hP _ _ _ _ _ _ _ _ _ h (L false (by simp [thS, c1]))), fun c1 => ⟨fun c2 => v222_190 hP _ _ _ _ _ _ _ _ h (v222_191 hP _ _ _ _ _ _ _ _ _ h (L false (by simp [thS, c1, c2]))), fun c2 => v222_191 hP _ _ _ _ _ _ _ _ _ h (L true (by simp [thS, c1, c2]))⟩⟩, fun z => absurd rfl z⟩⟩⟩⟩⟩
  · exact ⟨fun z => absurd z (by decide), fun _ => ⟨fun z => absurd z (by decide), fun _ => ⟨fun z => absurd z (by decide), fun _ => ⟨fun z => absurd z (by decide), fun _ => ⟨fun z => absurd z (by decide), fun _ => ⟨fun _ => ⟨fun c1 => v222_224 hP _ _ _ _ _ _ _ _ h (v222_225 hP _ _ _ _ _ _ _ _ _ h (L false (by simp [thS, c1]))), fun c1 => ⟨fun c2 => v222_224 hP _ _ _ _ _ _ _ _ h (v222_225 hP _ _ _ _ _ _ _ _ _ h (L false (by simp [thS, c1, c2]))), fun c2 => ⟨fun c3 => v222_220 hP _ _ _ _ _ _ _ _ h (v222_225 hP _ _ _ _ _ _ _ _ _ h (L true (by simp [thS, c1, c2, c3]))), fun c3 => s223 ⟨fun c5 => v222_224 hP _ _ _ _ _ _ _ _ h (v222_225 hP _ _ _ _ _ _ _ _ _ h (L false (by simp [thS, c1, c2, c3, bo0.mp c5]))), fun c5 => v222_220 hP _ _ _ _ _ _ _ _ h (v222_225 hP _ _ _ _ _ _ _ _ _ h (L true (by simp [thS, c1, c2, c3, bo1.mp c5])))⟩⟩⟩⟩, fun z => absurd rfl z⟩⟩⟩⟩⟩⟩
  · exact ⟨fun z => absurd z (by decide), fun _ => ⟨fun z => absurd z (by decide), fun _ => ⟨fun z => absurd z (by decide), fun _ => ⟨fun z => absurd z (by decide), fun _ => ⟨fun z => absurd z (by decide), fun _ => ⟨fun z => absurd z (by decide), fun _ => ⟨fun _ => ⟨fun c1 => v222_258 hP _ _ _ _ _ _ _ _ h (v222_259 hP _ _ _ _ _ _ _ _ _ h (L false (by simp [thS, c1]))), fun c1 => ⟨fun c2 => v222_254 hP _ _ _ _ _ _ _ _ h (v222_259 hP _ _ _ _ _ _ _ _ _ h (L true (by simp [thS, c1, c2]))), fun c2 => ⟨fun c3 => v222_258 hP _ _ _ _ _ _ _ _ h (v222_259 hP _ _ _ _ _ _ _ _ _ h (L false (by simp [thS, c1, c2, c3]))), fun c3 => s223 ⟨fun c5 => v222_258 hP _ _ _ _ _ _ _ _ h (v222_259 hP _ _ _ _ _ _ _ _ _ h (L false (by simp [thS, c1, c2, c3, bo0.mp c5]))), fun c5 => v222_254 hP _ _ _ _ _ _ _ _ h (v222_259 hP _ _ _ _ _ _ _ _ _ h (L true (by simp [thS, c1, c2, c3, bo1.mp c5])))⟩⟩⟩⟩, fun z => absurd rfl z⟩⟩⟩⟩⟩⟩⟩
/-- a charge of side a with the point b to the right of its middle, c below it -/
def chgC (k : Nat) (a b c : Int32) : Bool := if fmK k = 3 then (!decide (a ≤ absS b) && !decide (a ≤ absS c)) else if fmK k = 4 then !decide (a ≤ absS b + absS c) else if fmK k = 5 then !decide (a * a ≤ (b * b) + (c * c)) else thS k a b c
theorem s221 {d k : Nat} {a b c : Int32} {h : Hp} {K : Int32 → Hp → Prop} (h1 : 16 ≤ k) (h2 : k ≤ 30) (kk : K (bi (chgC k a b c)) h) : CI (d + 3) 221 [vI (nI k), vI a, vI b, vI c] h K := by
  intro P hP
  have L : ∀ t : Bool, chgC k a b c = t → ∃ z, some (vI (bi t)) = some (vI z) ∧ K z h := fun t e => ⟨_, rfl, by rw [← e]; exact kk⟩
  have ek : tnI k = nI k := if_neg (by omega)
  refine v221 hP (nI k) a b c h ?_
  rw [abs_e, abs_e, ← ek]
  refine s100 (Or.inl (by omega)) ?_
  rw [ek]
  have hf : (k ≤ 18 ∧ fmK k = 3) ∨ ((19 ≤ k ∧ k ≤ 20) ∧ fmK k = 4) ∨ ((21 ≤ k ∧ k ≤ 23) ∧ fmK k = 5) ∨ (24 ≤ k ∧ fmK k = 6) := by
    unfold fmK
    (repeat' split) <;> omega
  rcases hf with ⟨_, e⟩ | ⟨_, e⟩ | ⟨_, e⟩ | ⟨h24, e⟩
  · rw [e]
    exact ⟨fun _ => ⟨fun c1 => L false (by simp [chgC, e, c1]), fun c1 => ⟨fun c2 => L false (by simp [chgC, e, c1, c2]), fun c2 => L true (by simp [chgC, e, c1, c2])⟩⟩, fun z => absurd rfl z⟩
  · rw [e]
    exact ⟨fun z => absurd z (by decide), fun _ => ⟨fun _ => ⟨fun c1 => L false (by simp [chgC, e, c1]), fun c1 => L true (by simp [chgC, e, c1])⟩, fun z => absurd rfl z⟩⟩
  · rw [e]
    exact ⟨fun z => absurd z (by decide), fun _ => ⟨fun z => absurd z (by decide), fun _ => ⟨fun _ => ⟨fun c1 => L false (by simp [chgC, e, c1]), fun c1 => L true (by simp [chgC, e, c1])⟩, fun z => absurd rfl z⟩⟩⟩
  · rw [e]
    exact ⟨fun z => absurd z (by decide), fun _ => ⟨fun z => absurd z (by decide), fun _ => ⟨fun z => absurd z (by decide), fun _ => s222 h24 h2 ⟨nar _, L _ (by unfold chgC; rw [e]; rfl)⟩⟩⟩⟩
