/-! the reference's isCharge, isOrdinary -/
theorem in_all : (List.range 15).all (fun k => (inF 4 (nI (k + 16)) 3 == decide (fmK (k + 16) = 3)) && (inF 4 (nI (k + 16)) 4 == decide (fmK (k + 16) = 4)) && (inF 4 (nI (k + 16)) 5 == decide (fmK (k + 16) = 5))) = true := by decide +kernel
theorem in_f {k : Nat} (h1 : 16 ≤ k) (h2 : k ≤ 30) : inF 4 (nI k) 3 = decide (fmK k = 3) ∧ inF 4 (nI k) 4 = decide (fmK k = 4) ∧ inF 4 (nI k) 5 = decide (fmK k = 5) := by
  have := all_r in_all (show k - 16 < 15 by omega)
  rw [show k - 16 + 16 = k by omega] at this
  simp only [Bool.and_eq_true, beq_iff_eq] at this
  exact ⟨this.1.1, this.1.2, this.2⟩
theorem s201 {d k : Nat} {a b c : Int32} {h : Hp} {K : Int32 → Hp → Prop} (h1 : 16 ≤ k) (h2 : k ≤ 30) (kk : K (bi (chgC k a b c)) h) : CI (d + 3) 201 [vI (nI k), vI b, vI c, vI a] h K := by
  intro P hP
  have L : ∀ t : Bool, chgC k a b c = t → narrow .boolean (.int (bi t)) = .int (bi t) ∧ ∃ z, some (vI (bi t)) = some (vI z) ∧ K z h := fun t e => ⟨nar t, _, rfl, by rw [← e]; exact kk⟩
  have h46 : ∀ bx rd : Bool, bx = (!decide (a ≤ absS b) && !decide (a ≤ absS c)) → rd = (!decide (a * a ≤ (b * b) + (c * c))) → P 46 [vI (nI k), vI b, vI c, vI a, vI (a / 2), vI (bi bx), un] [vI (bi rd)] h := by
    intro bx rd ebx erd
    obtain ⟨i3, i4, i5⟩ := in_f h1 h2
    refine v201_46 hP (nI k) b c a (a / 2) (bi bx) (bi rd) h (s149 h1 h2 ?_)
    rw [i3]
    have hf : (k ≤ 18 ∧ fmK k = 3) ∨ ((19 ≤ k ∧ k ≤ 20) ∧ fmK k = 4) ∨ ((21 ≤ k ∧ k ≤ 23) ∧ fmK k = 5) ∨ (24 ≤ k ∧ fmK k = 6) := by
      unfold fmK
      (repeat' split) <;> omega
    rcases hf with ⟨_, e⟩ | ⟨_, e⟩ | ⟨_, e⟩ | ⟨h24, e⟩
    · rw [e]
      exact ⟨fun z => absurd z (by decide), fun _ => L bx (by rw [ebx]; simp [chgC, e])⟩
    · rw [e]
      refine ⟨fun _ => s149 h1 h2 ?_, fun z => absurd (by decide) z⟩
      rw [i4, e]
      exact ⟨fun z => absurd z (by decide), fun _ => s197 (s197 ⟨fun c1 => v201_85 hP _ _ _ _ _ _ _ _ h (L false (by simp [chgC, e, c1])), fun c1 => v201_85 hP _ _ _ _ _ _ _ _ h (L true (by simp [chgC, e, c1]))⟩)⟩
    · rw [e]
      refine ⟨fun _ => s149 h1 h2 ?_, fun z => absurd (by decide) z⟩
      rw [i4, e]
      refine ⟨fun _ => s149 h1 h2 ?_, fun z => absurd (by decide) z⟩
      rw [i5, e]
      exact ⟨fun z => absurd z (by decide), fun _ => L rd (by rw [erd]; simp [chgC, e])⟩
    · rw [e]
      refine ⟨fun _ => s149 h1 h2 ?_, fun z => absurd (by decide) z⟩
      rw [i4, e]
      refine ⟨fun _ => s149 h1 h2 ?_, fun z => absurd (by decide) z⟩
      rw [i5, e]
      refine ⟨fun _ => ?_, fun z => absurd (by decide) z⟩
      have et : chgC k a b c = thS k a b c := by unfold chgC; rw [e]; rfl
      rw [et] at L
      have rd0 : rd = false → decide (a * a ≤ (b * b) + (c * c)) = true := fun z => by rw [erd] at z; simpa using z
      have rd1 : rd = true → decide (a * a ≤ (b * b) + (c * c)) = false := fun z => by rw [erd] at z; simpa using z
      have bx0 : bx = false → (!decide (a ≤ absS b) && !decide (a ≤ absS c)) = false := fun z => by rw [← ebx]; exact z
      have bx1 : bx = true → (!decide (a ≤ absS b) && !decide (a ≤ absS c)) = true := fun z => by rw [← ebx]; exact z
      have t25 : thS 25 a b c = (!decide (a * a ≤ (b * b) + (c * c)) && !decide ((b * b) + ((c + (a / 2)) * (c + (a / 2))) < (a * a) / 2)) := rfl
      have t26 : thS 26 a b c = (!decide (a * a ≤ (b * b) + (c * c)) && !decide ((b * b) + (c * c) < (a * a) / 4)) := rfl
      have t29 : thS 29 a b c = ((!decide (a ≤ absS b) && !decide (a ≤ absS c)) && (decide (0 < c) || odS ((b + 64) / 4))) := by
        show (!decide (a ≤ absS b) && (!decide (a ≤ absS c) && (decide (0 < c) || odS ((b + 64) / 4)))) = _
        rw [Bool.and_assoc]
      have hc : k = 24 ∨ k = 25 ∨ k = 26 ∨ k = 27 ∨ k = 28 ∨ k = 29 ∨ k = 30 := by omega
      rcases hc with rfl | rfl | rfl | rfl | rfl | rfl | rfl
      · exact ⟨fun _ => s197 (s197 ⟨fun c1 => v201_167 hP _ _ _ _ _ _ _ h (v201_172 hP _ _ _ _ _ _ _ _ h (L true (by simp [thS, c1]))), fun c1 => s197 ⟨fun c2 => v201_171 hP _ _ _ _ _ _ _ h (v201_172 hP _ _ _ _ _ _ _ _ h (L false (by simp [thS, c1, c2]))), fun c2 => s197 ⟨fun c3 => v201_171 hP _ _ _ _ _ _ _ h (v201_172 hP _ _ _ _ _ _ _ _ h (L false (by simp [thS, c1, c2, c3]))), fun c3 => v201_167 hP _ _ _ _ _ _ _ h (v201_172 hP _ _ _ _ _ _ _ _ h (L true (by simp [thS, c1, c2, c3])))⟩⟩⟩), fun z => absurd rfl z⟩
      · exact ⟨fun z => absurd z (by decide), fun _ => ⟨fun _ => ⟨fun c1 => v201_203 hP _ _ _ _ _ _ _ h (v201_204 hP _ _ _ _ _ _ _ _ h (L false (by rw [t25, rd0 (bo0.mp c1)]; rfl))), fun c1 => ⟨fun c2 => v201_203 hP _ _ _ _ _ _ _ h (v201_204 hP _ _ _ _ _ _ _ _ h (L false (by rw [t25, rd1 (bo1.mp c1)]; simp [c2]))), fun c2 => v201_204 hP _ _ _ _ _ _ _ _ h (L true (by rw [t25, rd1 (bo1.mp c1)]; simp [c2]))⟩⟩, fun z => absurd rfl z⟩⟩
      · exact ⟨fun z => absurd z (by decide), fun _ => ⟨fun z => absurd z (by decide), fun _ => ⟨fun _ => ⟨fun c1 => v201_229 hP _ _ _ _ _ _ _ h (v201_230 hP _ _ _ _ _ _ _ _ h (L false (by rw [t26, rd0 (bo0.mp c1)]; rfl))), fun c1 => ⟨fun c2 => v201_229 hP _ _ _ _ _ _ _ h (v201_230 hP _ _ _ _ _ _ _ _ h (L false (by rw [t26, rd1 (bo1.mp c1)]; simp [c2]))), fun c2 => v201_230 hP _ _ _ _ _ _ _ _ h (L true (by rw [t26, rd1 (bo1.mp c1)]; simp [c2]))⟩⟩, fun z => absurd rfl z⟩⟩⟩
      · exact ⟨fun z => absurd z (by decide), fun _ => ⟨fun z => absurd z (by decide), fun _ => ⟨fun z => absurd z (by decide), fun _ => ⟨fun _ => L rd (by rw [erd]; simp [thS]), fun z => absurd rfl z⟩⟩⟩⟩
      · exact ⟨fun z => absurd z (by decide), fun _ => ⟨fun z => absurd z (by decide), fun _ => ⟨fun z => absurd z (by decide), fun _ => ⟨fun z => absurd z (by decide), fun _ => ⟨fun _ => s197 ⟨fun c1 => v201_256 hP _ _ _ _ _ _ _ h (v201_257 hP _ _ _ _ _ _ _ _ h (L false (by simp [thS, c1]))), fun c1 => s197 ⟨fun c2 => v201_256 hP _ _ _ _ _ _ _ h (v201_257 hP _ _ _ _ _ _ _ _ h (L false (by simp [thS, c1, c2]))), fun c2 => v201_257 hP _ _ _ _ _ _ _ _ h (L true (by simp [thS, c1, c2]))⟩⟩, fun z => absurd rfl z⟩⟩⟩⟩⟩
      · exact ⟨fun z => absurd z (by decide), fun _ => ⟨fun z => absurd z (by decide), fun _ => ⟨fun z => absurd z (by decide), fun _ => ⟨fun z => absurd z (by decide), fun _ => ⟨fun z => absurd z (by decide), fun _ => ⟨fun _ => ⟨fun c1 => v201_283 hP _ _ _ _ _ _ _ h (v201_284 hP _ _ _ _ _ _ _ _ h (L false (by rw [t29, bx0 (bo0.mp c1)]; rfl))), fun c1 => ⟨fun c2 => v201_279 hP _ _ _ _ _ _ _ h (v201_284 hP _ _ _ _ _ _ _ _ h (L true (by rw [t29, bx1 (bo1.mp c1)]; simp [c2]))), fun c2 => ⟨fun c3 => v201_283 hP _ _ _ _ _ _ _ h (v201_284 hP _ _ _ _ _ _ _ _ h (L false (by rw [t29, bx1 (bo1.mp c1)]; simp [c2, odS, c3]))), fun c3 => v201_279 hP _ _ _ _ _ _ _ h (v201_284 hP _ _ _ _ _ _ _ _ h (L true (by rw [t29, bx1 (bo1.mp c1)]; simp [c2, odS, Classical.not_not.mp c3])))⟩⟩⟩, fun z => absurd rfl z⟩⟩⟩⟩⟩⟩
      · exact ⟨fun z => absurd z (by decide), fun _ => ⟨fun z => absurd z (by decide), fun _ => ⟨fun z => absurd z (by decide), fun _ => ⟨fun z => absurd z (by decide), fun _ => ⟨fun z => absurd z (by decide), fun _ => ⟨fun z => absurd z (by decide), fun _ => s197 ⟨fun c1 => v201_321 hP _ _ _ _ _ _ _ h (v201_322 hP _ _ _ _ _ _ _ _ h (L false (by simp [thS, c1]))), fun c1 => s197 ⟨fun c2 => v201_317 hP _ _ _ _ _ _ _ h (v201_322 hP _ _ _ _ _ _ _ _ h (L true (by simp [thS, c1, c2]))), fun c2 => ⟨fun c3 => v201_321 hP _ _ _ _ _ _ _ h (v201_322 hP _ _ _ _ _ _ _ _ h (L false (by simp [thS, c1, c2, c3]))), fun c3 => ⟨fun c4 => v201_321 hP _ _ _ _ _ _ _ h (v201_322 hP _ _ _ _ _ _ _ _ h (L false (by simp [thS, c1, c2, c3, odS, c4]))), fun c4 => v201_317 hP _ _ _ _ _ _ _ h (v201_322 hP _ _ _ _ _ _ _ _ h (L true (by simp [thS, c1, c2, c3, odS, Classical.not_not.mp c4])))⟩⟩⟩⟩⟩⟩⟩⟩⟩⟩
  refine v201 hP (nI k) b c a h (s197 ⟨fun c1 => v201_25 hP _ _ _ _ _ h ?_, fun c1 => s197 ⟨fun c2 => v201_25 hP _ _ _ _ _ h ?_, fun c2 => ?_⟩⟩)
  · refine v201_26 hP (nI k) b c a (a / 2) (bi false) h ⟨fun c3 => h46 false false (by simp [c1]) (by simp [c3]), fun c3 => h46 false true (by simp [c1]) (by simp [c3])⟩
  · refine v201_26 hP (nI k) b c a (a / 2) (bi false) h ⟨fun c3 => h46 false false (by simp [c2]) (by simp [c3]), fun c3 => h46 false true (by simp [c2]) (by simp [c3])⟩
  · refine v201_26 hP (nI k) b c a (a / 2) (bi true) h ⟨fun c3 => h46 true false (by simp [c1, c2]) (by simp [c3]), fun c3 => h46 true true (by simp [c1, c2]) (by simp [c3])⟩
/-- isOrdinary(kind, x, y) -/
theorem s202 {d pl k : Nat} {x y : Int32} {h : Hp} {K : Int32 → Hp → Prop} (hk : (pl = 0 ∧ 8 ≤ k ∧ k ≤ 14) ∨ (pl = 3 ∧ k = 7) ∨ (pl = 5 ∧ k = 15)) (kk : K (bi (cvrS pl k 1 x y)) h) : CI (d + 3) 202 [vI (nI k), vI x, vI y] h K := by
  intro P hP
  rcases hk with ⟨rfl, h1, h2⟩ | ⟨rfl, rfl⟩ | ⟨rfl, rfl⟩
  · have kk : K (bi (ordS k ((2 * x) - 59) ((2 * y) - 71))) h := kk
    have L : ∀ t : Bool, ordS k ((2 * x) - 59) ((2 * y) - 71) = t → ∃ z, some (vI (bi t)) = some (vI z) ∧ K z h := fun t e => ⟨_, rfl, by rw [← e]; exact kk⟩
    have hc : k = 8 ∨ k = 9 ∨ k = 10 ∨ k = 11 ∨ k = 12 ∨ k = 13 ∨ k = 14 := by omega
    rcases hc with rfl | rfl | rfl | rfl | rfl | rfl | rfl
    · exact v202 hP (nI 8) x y h ⟨fun z => absurd z (by decide), fun _ => ⟨fun _ => s197 ⟨fun c => L false (by simp [ordS, c]), fun c => L true (by simp [ordS, c])⟩, fun z => absurd rfl z⟩⟩
    · exact v202 hP (nI 9) x y h ⟨fun z => absurd z (by decide), fun _ => ⟨fun z => absurd z (by decide), fun _ => ⟨fun _ => s197 ⟨fun c => L false (by simp [ordS, c]), fun c => L true (by simp [ordS, c])⟩, fun z => absurd rfl z⟩⟩⟩
    · exact v202 hP (nI 10) x y h ⟨fun z => absurd z (by decide), fun _ => ⟨fun z => absurd z (by decide), fun _ => ⟨fun z => absurd z (by decide), fun _ => ⟨fun _ => s197 ⟨fun c => L false (by simp [ordS, c]), fun c => L true (by simp [ordS, c])⟩, fun z => absurd rfl z⟩⟩⟩⟩
    · exact v202 hP (nI 11) x y h ⟨fun z => absurd z (by decide), fun _ => ⟨fun z => absurd z (by decide), fun _ => ⟨fun z => absurd z (by decide), fun _ => ⟨fun z => absurd z (by decide), fun _ => ⟨fun _ => s197 (s197 ⟨fun c => L false (by simp [ordS, c]), fun c => ⟨fun c2 => L false (by simp [ordS, c, c2]), fun c2 => L true (by simp [ordS, c, c2])⟩⟩), fun z => absurd rfl z⟩⟩⟩⟩⟩
    · exact v202 hP (nI 12) x y h ⟨fun z => absurd z (by decide), fun _ => ⟨fun z => absurd z (by decide), fun _ => ⟨fun z => absurd z (by decide), fun _ => ⟨fun z => absurd z (by decide), fun _ => ⟨fun z => absurd z (by decide), fun _ => ⟨fun _ => s197 ⟨fun c => L true (by simp [ordS, c]), fun c => s197 ⟨fun c2 => L false (by simp [ordS, c, c2]), fun c2 => L true (by simp [ordS, c, c2])⟩⟩, fun z => absurd rfl z⟩⟩⟩⟩⟩⟩
    · exact v202 hP (nI 13) x y h ⟨fun z => absurd z (by decide), fun _ => ⟨fun z => absurd z (by decide), fun _ => ⟨fun z => absurd z (by decide), fun _ => ⟨fun z => absurd z (by decide), fun _ => ⟨fun z => absurd z (by decide), fun _ => ⟨fun z => absurd z (by decide), fun _ => ⟨fun _ => s197 ⟨fun c => L true (by simp [ordS, c]), fun c => s197 ⟨fun c2 => L false (by simp [ordS, c, c2]), fun c2 => L true (by simp [ordS, c, c2])⟩⟩, fun z => absurd rfl z⟩⟩⟩⟩⟩⟩⟩
    · exact v202 hP (nI 14) x y h ⟨fun z => absurd z (by decide), fun _ => ⟨fun z => absurd z (by decide), fun _ => ⟨fun z => absurd z (by decide), fun _ => ⟨fun z => absurd z (by decide), fun _ => ⟨fun z => absurd z (by decide), fun _ => ⟨fun z => absurd z (by decide), fun _ => ⟨fun z => absurd z (by decide), fun _ => ⟨fun _ => s197 ⟨fun c => L false (by simp [ordS, c]), fun c => ⟨fun c2 => L false (by simp [ordS, c, c2]), fun c2 => L true (by simp [ordS, c, c2])⟩⟩, fun z => absurd rfl z⟩⟩⟩⟩⟩⟩⟩⟩
  · have kk : K (bi (!decide (22 ≤ y))) h := kk
    refine v202 hP (nI 7) x y h ⟨fun _ => ⟨fun c => ⟨_, rfl, ?_⟩, fun c => ⟨_, rfl, ?_⟩⟩, fun z => absurd rfl z⟩
    · rw [decide_eq_true c] at kk; exact kk
    · rw [decide_eq_false c] at kk; exact kk
  · have kk : K (bi (borC x y)) h := kk
    unfold borC at kk
    refine v202 hP (nI 15) x y h ⟨fun z => absurd z (by decide), fun _ => ⟨fun z => absurd z (by decide), fun _ => ⟨fun z => absurd z (by decide), fun _ => ⟨fun z => absurd z (by decide), fun _ => ⟨fun z => absurd z (by decide), fun _ => ⟨fun z => absurd z (by decide), fun _ => ⟨fun z => absurd z (by decide), fun _ => ⟨fun z => absurd z (by decide), fun _ => s196 ⟨fun c => ⟨_, rfl, ?_⟩, fun c => s196 ⟨fun c2 => ⟨_, rfl, ?_⟩, fun c2 => s196 ⟨fun c3 => ⟨_, rfl, ?_⟩, fun c3 => s196 ⟨fun c4 => ⟨_, rfl, ?_⟩, fun c4 => ⟨_, rfl, ?_⟩⟩⟩⟩⟩⟩⟩⟩⟩⟩⟩⟩⟩
    · rw [bo0.mp c] at kk; exact kk
    · rw [bo1.mp c, bo0.mp c2] at kk; exact kk
    · rw [bo1.mp c, bo1.mp c2, bo0.mp c3] at kk; exact kk
    · rw [bo1.mp c, bo1.mp c2, bo1.mp c3, bo1.mp c4] at kk; exact kk
    · rw [bo1.mp c, bo1.mp c2, bo1.mp c3, bo0.mp (Classical.not_not.mp c4)] at kk; exact kk
