/-! the class's readField -/
theorem f64 {d n a s pa q : Nat} {tx : Nat → Int32} {G : Hp} {K : Int32 → Hp → Prop} (e8 : jR G 8 0 0 = some 0) {X x y z : Int32} {g : Hp} (hX : X = nI pa) (h1 : 0 < pa) (h10 : pa ≤ 10) (R : TkN (shH G s x y z) g 0 a n tx q) (k0 : ∀ x y z h' p', fld2 (kd tx n) (np tx n) pa q = (none, p') → TkN (shH G s x y z) h' 0 a n tx p' → K 0 h') (k1 : ∀ a' b c h' p', fld2 (kd tx n) (np tx n) pa q = (some (a', b, c), p') → TkN (shH G s (nI a') (nI b) (tnI c)) h' 0 a n tx p' → K 1 h') : dr (some s) (fun a4 => dr (some s) (fun a5 => (¬ jI (wI g 7 a4 0 X) 7 a5 0 = 0 → dr (jR (wI g 7 a4 0 X) 8 0 0) (fun a6 => CI (d + 5) 80 [vR 9 (some a6), vR 40 (some 17)] (wI g 7 a4 0 X) (fun x8 h7 => dr (some s) (fun a9 => dr (some s) (fun a10 => (jI (wI h7 7 a9 1 x8) 7 a10 1 = (-1) → (fun v h' => ∃ x, v = some (vI x) ∧ K x h') (some (vI 0)) (wI h7 7 a9 1 x8)) ∧ (¬ jI (wI h7 7 a9 1 x8) 7 a10 1 = (-1) → dr (jR (wI h7 7 a9 1 x8) 8 0 0) (fun a11 => CI (d + 5) 79 [vR 9 (some a11), vR 40 (some 19)] (wI h7 7 a9 1 x8) (fun x13 h12 => (¬ x13 = 0 → dr (jR h12 8 0 0) (fun a14 => CI (d + 5) 81 [vR 9 (some a14), vR 40 (some 17)] h12 (fun x16 h15 => dr (some s) (fun a17 => (¬ x16 = jI h15 7 a17 1 → dr (jR h15 8 0 0) (fun a18 => CI (d + 5) 80 [vR 9 (some a18), vR 40 (some 17)] h15 (fun x20 h19 => dr (some s) (fun a21 => dr (some s) (fun a22 => (jI (wI h19 7 a21 2 x20) 7 a22 2 = (-1) → (fun v h' => ∃ x, v = some (vI x) ∧ K x h') (some (vI 0)) (wI h19 7 a21 2 x20)) ∧ (¬ jI (wI h19 7 a21 2 x20) 7 a22 2 = (-1) → (fun v h' => ∃ x, v = some (vI x) ∧ K x h') (some (vI 1)) (wI h19 7 a21 2 x20))))))) ∧ (¬ (¬ x16 = jI h15 7 a17 1) → (fun v h' => ∃ x, v = some (vI x) ∧ K x h') (some (vI 0)) h15))))) ∧ (¬ (¬ x13 = 0) → (fun v h' => ∃ x, v = some (vI x) ∧ K x h') (some (vI 0)) h12))))))))) ∧ (¬ (¬ jI (wI g 7 a4 0 X) 7 a5 0 = 0) → (fun v h' => ∃ x, v = some (vI x) ∧ K x h') (some (vI 0)) (wI g 7 a4 0 X)))) := by
  have S : ∀ {x y z : Int32} {g' : Hp} {q' : Nat}, TkN (shH G s x y z) g' 0 a n tx q' → jR g' 8 0 0 = some 0 := fun T => by rw [T.R]; exact e8
  unfold fld2 at k0 k1
  have R1 := R.wI (t := 7) s 0 X (by decide) (by decide)
  rw [shH_w0] at R1
  refine dr_of rfl (dr_of rfl ⟨fun _ => dr_of (S R1) (s80t R1 (fun c2 => ?_) (fun c2 h2 R2 => ?_)), fun c => absurd (by rw [jI_same, hX]; exact nI_ne0 h1 (by omega)) c⟩)
  · rw [if_neg c2] at k0
    have R2 := R1.wI (t := 7) s 1 (-1) (by decide) (by decide)
    rw [shH_w1] at R2
    exact dr_of rfl (dr_of rfl ⟨fun _ => ⟨_, rfl, k0 _ _ _ _ _ rfl R2⟩, fun c => absurd (jI_same _ _ _ _ _) c⟩)
  · rw [if_pos c2] at k0 k1
    have R3 := R2.wI (t := 7) s 1 (nI (kd tx n q)) (by decide) (by decide)
    rw [shH_w1] at R3
    refine dr_of rfl (dr_of rfl ⟨fun c => absurd c (by rw [jI_same]; exact nI_m1 (by omega)), fun _ => dr_of (S R3) (s79w (by decide) aT19 R3 (fun c4 => ?_) (fun c4 h4 R4 => ?_))⟩)
    · rw [if_neg c4] at k0
      exact ⟨fun c => absurd rfl c, fun _ => ⟨_, rfl, k0 _ _ _ _ _ rfl R3⟩⟩
    · rw [if_pos c4] at k0 k1
      refine ⟨fun _ => dr_of (S R4) (s81n R4 (by decide) ?_), fun c => absurd (by decide) c⟩
      have e1 : jI h4 7 s 1 = nI (kd tx n q) := by rw [R4.I (by decide), shH_r1]
      rw [aT17]
      refine dr_of rfl ⟨fun c5 => dr_of (S R4) (s80t R4 (fun c6 => ?_) (fun c6 h6 R6 => ?_)), fun c5 => ⟨_, rfl, ?_⟩⟩
      · rw [if_neg (fun y => c6 y.1)] at k0
        have R7 := R4.wI (t := 7) s 2 (-1) (by decide) (by decide)
        rw [shH_w2] at R7
        exact dr_of rfl (dr_of rfl ⟨fun _ => ⟨_, rfl, k0 _ _ _ _ _ rfl R7⟩, fun c => absurd (jI_same _ _ _ _ _) c⟩)
      · have c7 : kd tx n (np tx n (np tx n q)) ≠ kd tx n q := fun y => c5 (by
          unfold tiS
          rw [if_pos c6, e1, y])
        rw [if_pos ⟨c6, c7⟩] at k1
        have R7 := R6.wI (t := 7) s 2 (nI (kd tx n (np tx n (np tx n q)))) (by decide) (by decide)
        rw [shH_w2, hX] at R7
        have et : tnI (kd tx n (np tx n (np tx n q))) = nI (kd tx n (np tx n (np tx n q))) := if_neg (by omega)
        refine dr_of rfl (dr_of rfl ⟨fun c => absurd c (by rw [jI_same]; exact nI_m1 (by omega)), fun _ => ⟨_, rfl, k1 _ _ _ _ _ rfl ?_⟩⟩)
        rw [et]
        exact R7
      · have c5 := Classical.not_not.mp c5
        rw [e1] at c5
        unfold tiS at c5
        have c7 : ¬ (kd tx n (np tx n (np tx n q)) < 9 ∧ kd tx n (np tx n (np tx n q)) ≠ kd tx n q) := by
          intro y
          rw [if_pos y.1] at c5
          exact y.2 ((nI_eq (by omega) (by omega)).mp c5)
        rw [if_neg c7] at k0
        exact k0 _ _ _ _ _ rfl R4
/-- readField(shield) -/
theorem s64 {d n a s p : Nat} {tx : Nat → Int32} {G h : Hp} {K : Int32 → Hp → Prop} (e8 : jR G 8 0 0 = some 0) (i0 : jI G 7 s 0 = 0) (i1 : jI G 7 s 1 = -1) (i2 : jI G 7 s 2 = -1) (R : TkN G h 0 a n tx p) (k0 : ∀ x y z h' p', fldS (kd tx n) (np tx n) p = (none, p') → TkN (shH G s x y z) h' 0 a n tx p' → K 0 h') (k1 : ∀ a' b c h' p', fldS (kd tx n) (np tx n) p = (some (a', b, c), p') → TkN (shH G s (nI a') (nI b) (tnI c)) h' 0 a n tx p' → K 1 h') : CI (d + 6) 64 [vR 8 (some 0), vR 7 (some s)] h K := by
  intro P hP
  have eG : shH G s 0 (-1) (-1) = G := by
    unfold shH
    rw [wI_self i0, wI_self i1, wI_self i2]
  have S : ∀ {x y z : Int32} {g' : Hp} {q' : Nat}, TkN (shH G s x y z) g' 0 a n tx q' → jR g' 8 0 0 = some 0 := fun T => by rw [T.R]; exact e8
  rw [← eG] at R
  unfold fldS at k0 k1
  have e16 := aT16 (kd tx n p)
  unfold rngS at e16
  refine v64 hP 0 (some s) h (dr_of (S R) (s80n R (by decide) (fun c => ?_) (fun c h2 R2 => ?_)))
  · have c1 : ¬ (70 ≤ kd tx n p ∧ kd tx n p < 76) := by
      intro y
      rw [e16, if_pos y] at c
      exact nI_m1 (by omega) c
    rw [if_neg (show ¬ kd tx n p = 70 by omega), if_neg (show ¬ (71 ≤ kd tx n p ∧ kd tx n p ≤ 75) by omega)] at k0 k1
    refine ⟨fun y => absurd rfl y, fun _ => dr_of (S R) (s80t R (fun c2 => ?_) (fun c2 h2 R2 => ?_))⟩
    · rw [if_neg c2] at k0
      have R2 := R.wI (t := 7) s 1 (-1) (by decide) (by decide)
      rw [shH_w1] at R2
      exact dr_of rfl (dr_of rfl ⟨fun _ => ⟨_, rfl, k0 _ _ _ _ _ rfl R2⟩, fun c => absurd (jI_same _ _ _ _ _) c⟩)
    · rw [if_pos c2] at k1
      have R3 := R2.wI (t := 7) s 1 (nI (kd tx n p)) (by decide) (by decide)
      rw [shH_w1] at R3
      exact dr_of rfl (dr_of rfl ⟨fun c => absurd c (by rw [jI_same]; exact nI_m1 (by omega)), fun _ => ⟨_, rfl, k1 _ _ _ _ _ rfl R3⟩⟩)
  · have c1 : 70 ≤ kd tx n p ∧ kd tx n p < 76 := by
      rcases Nat.lt_or_ge (kd tx n p) 70 with y | y
      · rw [e16, if_neg (by omega)] at c; exact absurd rfl c
      · rcases Nat.lt_or_ge (kd tx n p) 76 with y2 | y2
        · exact ⟨y, y2⟩
        · rw [e16, if_neg (by omega)] at c; exact absurd rfl c
    rw [if_neg (show ¬ kd tx n p < 9 by omega)] at k0 k1
    rw [e16, if_pos c1]
    refine ⟨fun _ => ⟨fun c3 => ?_, fun c3 => ?_⟩, fun y => absurd (nI_m1 (by omega)) y⟩
    · have c4 : ¬ kd tx n p = 70 := fun y => c3 (by rw [y]; rfl)
      rw [if_neg c4, if_pos (show 71 ≤ kd tx n p ∧ kd tx n p ≤ 75 by omega)] at k0 k1
      exact f64 e8 (X := nI (kd tx n p - 70) + 5) (pa := kd tx n p - 65) (by
        show nI (kd tx n p - 70) + nI 5 = _
        rw [nI_add]; congr 1; omega) (by omega) (by omega) R2 k0 k1
    · have c4 : kd tx n p = 70 := by
        have y := (nI_eq (a := kd tx n p - 70) (b := 0) (by omega) (by omega)).mp (Classical.not_not.mp c3)
        omega
      rw [if_pos c4] at k0 k1
      have hl : lnS (kd tx n (np tx n p)) ≤ 5 := by unfold lnS; (repeat' split) <;> omega
      have e18 := aT18 (kd tx n (np tx n p))
      unfold lniS at e18
      refine dr_of (S R2) (s80n R2 (by decide) (fun c5 => ?_) (fun c5 h5 R5 => ?_))
      · have c6 : lnS (kd tx n (np tx n p)) = 0 := by
          rcases Nat.decEq (lnS (kd tx n (np tx n p))) 0 with y | y
          · rw [e18, if_neg y] at c5
            exact absurd c5 (nI_m1 (by omega))
          · exact y
        rw [if_pos c6] at k0
        have R3 := R2.wI (t := 7) s 0 (-1 + 1) (by decide) (by decide)
        rw [shH_w0] at R3
        exact dr_of rfl (dr_of rfl ⟨fun y => absurd (by rw [jI_same]; decide) y, fun _ => ⟨_, rfl, k0 _ _ _ _ _ rfl R3⟩⟩)
      · have c6 : ¬ lnS (kd tx n (np tx n p)) = 0 := by
          intro y
          rw [e18, if_pos y] at c5
          exact absurd rfl c5
        rw [if_neg c6] at k0 k1
        rw [e18, if_neg c6]
        exact f64 e8 (X := nI (lnS (kd tx n (np tx n p)) - 1) + 1) (pa := lnS (kd tx n (np tx n p))) (by rw [nI_1]; congr 1; omega) (by omega) (by omega) R5 k0 k1
