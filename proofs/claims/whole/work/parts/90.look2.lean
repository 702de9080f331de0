/-! look itself -/
theorem mod8 {w : Int32} (h : 10 ≤ w) : in8 ((w - 10) - (w - 10) / 8 * 8) := by
  obtain ⟨j, hj, e⟩ := nI_of (x := w) (fun c => by
    have c1 := Int32.lt_iff_toInt_lt.mp c
    have c2 := Int32.le_iff_toInt_le.mp h
    simp only [Int32.reduceToInt] at c1 c2
    omega)
  subst e
  have h10 : 10 ≤ j := by
    rcases Nat.lt_or_ge j 10 with z | z
    · exact absurd h (nI_ge (b := 10) z (by decide))
    · exact z
  obtain ⟨i, rfl⟩ : ∃ i, j = i + 10 := ⟨j - 10, by omega⟩
  have e1 : nI (i + 10) - 10 = nI i := by
    show nI (i + 10) - nI 10 = nI i
    rw [← nI_add, Int32.add_sub_cancel]
  have e2 : nI i / 8 = nI (i / 8) := by
    refine Int32.toInt_inj.mp ?_
    rw [Int32.toInt_div_of_ne_right _ _ (by decide), nI_toInt (by omega), nI_toInt (by omega)]
    show Int.tdiv (i : Int) 8 = _
    rw [Int.tdiv_eq_ediv_of_nonneg (by omega)]
    omega
  have e3 : nI i - nI (i / 8) * 8 = nI (i % 8) := by
    show nI i - nI (i / 8) * nI 8 = nI (i % 8)
    rw [pk_mul]
    have : i = i % 8 + i / 8 * 8 := by omega
    rw [show nI i = nI (i % 8 + i / 8 * 8) by rw [← this], ← nI_add, Int32.add_sub_cancel]
  rw [e1, e2, e3]
  have h8 : i % 8 < 8 := Nat.mod_lt _ (by decide)
  unfold in8
  generalize i % 8 = m at h8
  have hc : m = 0 ∨ m = 1 ∨ m = 2 ∨ m = 3 ∨ m = 4 ∨ m = 5 ∨ m = 6 ∨ m = 7 := by omega
  rcases hc with rfl | rfl | rfl | rfl | rfl | rfl | rfl | rfl <;> decide
theorem s168 {d k n : Nat} {sh : Nat → Int32} {w : Int32} {h : Hp} {K : Int32 → Hp → Prop} (S : RSh h) (en : jI h 11 0 11 = nI n) (hn : n ≤ 60) (hkn : k < n) (Q : RsK h k sh) (kk : K (lkS sh w) h) : CI (d + 3) 168 [vR 11 (some 0), vI (nI k), vI w] h K := by
  intro P hP
  have hk := Q.1
  have ik : ix (nI k) = k := nI_clamp (by omega)
  unfold lkS at kk
  have n10 : ∀ {j : Int32}, (j = 0 ∨ j = 1 ∨ j = 2 ∨ j = 3) → w = j → ¬ 10 ≤ w := by
    intro j hj e
    subst e
    rcases hj with rfl | rfl | rfl | rfl <;> decide
  refine v168 hP 0 (nI k) w h (s159 en hn (fun z => absurd rfl (z k hkn)) (fun _ _ _ => ⟨fun _ => ⟨fun c0 => ⟨fun c1 => ⟨fun c2 => ⟨fun c3 => ⟨fun c10 => ?_, fun c10 => ⟨_, rfl, ?_⟩⟩, fun c => ?_⟩, fun c => ?_⟩, fun c => ?_⟩, fun c => ?_⟩, fun z => absurd (by decide) z⟩))
  · rw [if_pos c10] at kk
    have h8 := mod8 c10
    refine s170 S Q (fun e => ⟨fun z => absurd rfl z, fun _ => ⟨_, rfl, ?_⟩⟩) (fun q e => ⟨fun _ => s124 ?_, fun z => absurd (nI_m1 (by have := (plN_v e).1; omega)) z⟩)
    · rw [e] at kk; exact kk
    · have hq := (plN_v e).1
      have hq : q < 7 := by omega
      rw [e] at kk
      dsimp only at kk
      unfold dtS at kk
      generalize (w - 10) - (w - 10) / 8 * 8 = m at kk h8 ⊢
      rw [spot_e]
      have vv : ∀ i, i < 9 → vp_in (nI (63 * k + 9 * q) + nI i) (jLen h 21 3) := fun i hi => by rw [spot_i]; exact vp3843 (by omega) hq hi S.n15
      have rr : ∀ i, i < 9 → jI h 21 3 (ix (nI (63 * k + 9 * q) + nI i)) = sh (3 + 9 * q + i) := fun i hi => by
        rw [spot_i, show ix (nI (63 * k + (9 * q + i))) = 63 * k + (9 * q + i) from nI_clamp (by omega)]; exact Q.p hq hi
      have r0 : nI (63 * k + 9 * q) = nI (63 * k + 9 * q) + nI 0 := (Int32.add_zero _).symm
      refine ⟨fun c => dr_of S.r15 ⟨by rw [r0]; exact vv 0 (by decide), _, rfl, ?_⟩, fun c0 => ⟨fun c => dr_of S.r15 ⟨vv 1 (by decide), _, rfl, ?_⟩, fun c1 => ⟨fun c => dr_of S.r15 ⟨vv 2 (by decide), _, rfl, ?_⟩, fun c2 => ⟨fun c => dr_of S.r15 ⟨vv 3 (by decide), _, rfl, ?_⟩, fun c3 => ⟨fun c => ⟨_, rfl, ?_⟩, fun c4 => ⟨fun c => s171 S Q hq ⟨_, rfl, ?_⟩, fun c5 => ⟨fun c => s172a S Q hq ⟨_, rfl, ?_⟩, fun c6 => s172b S Q hq ⟨_, rfl, ?_⟩⟩⟩⟩⟩⟩⟩⟩
      · rw [if_pos c] at kk; rw [r0, rr 0 (by decide)]; exact kk
      · rw [if_neg c0, if_pos c] at kk; rw [show nI (63 * k + 9 * q) + 1 = nI (63 * k + 9 * q) + nI 1 from rfl, rr 1 (by decide)]; exact kk
      · rw [if_neg c0, if_neg c1, if_pos c] at kk; rw [show nI (63 * k + 9 * q) + 2 = nI (63 * k + 9 * q) + nI 2 from rfl, rr 2 (by decide)]; exact kk
      · rw [if_neg c0, if_neg c1, if_neg c2, if_pos c] at kk; rw [show nI (63 * k + 9 * q) + 3 = nI (63 * k + 9 * q) + nI 3 from rfl, rr 3 (by decide)]; exact kk
      · rw [if_neg c0, if_neg c1, if_neg c2, if_neg c3, if_pos c] at kk; exact kk
      · rw [if_neg c0, if_neg c1, if_neg c2, if_neg c3, if_neg c4, if_pos c] at kk; exact kk
      · rw [if_neg c0, if_neg c1, if_neg c2, if_neg c3, if_neg c4, if_neg c5, if_pos c] at kk; exact kk
      · rw [if_neg c0, if_neg c1, if_neg c2, if_neg c3, if_neg c4, if_neg c5, if_neg c6] at kk; exact kk
  · rw [if_neg c10, if_neg c0, if_neg c1, if_neg c2, if_neg c3] at kk; exact kk
  · have c := Classical.not_not.mp c
    rw [if_neg (n10 (by decide) c), if_neg c0, if_neg c1, if_neg c2, if_pos c] at kk
    exact s169 S Q ⟨_, rfl, kk⟩
  · have c := Classical.not_not.mp c
    rw [if_neg (n10 (by decide) c), if_neg c0, if_neg c1, if_pos c] at kk
    refine dr_of S.r14 ⟨vp61 (by omega) S.n14, _, rfl, ?_⟩
    rw [ik, Q.2.2.2.1]; exact kk
  · have c := Classical.not_not.mp c
    rw [if_neg (n10 (by decide) c), if_neg c0, if_pos c] at kk
    refine dr_of S.r13 ⟨vp61 (by omega) S.n13, _, rfl, ?_⟩
    rw [ik, Q.2.2.1]; exact kk
  · have c := Classical.not_not.mp c
    rw [if_neg (n10 (by decide) c), if_pos c] at kk
    refine dr_of S.r12 ⟨vp61 (by omega) S.n12, _, rfl, ?_⟩
    rw [ik, Q.2.1]; exact kk
theorem s168n {d n : Nat} {l1 w : Int32} {h : Hp} {K : Int32 → Hp → Prop} (en : jI h 11 0 11 = nI n) (hn : n ≤ 60) (hno : ∀ j, j < n → ¬ l1 = nI j) (kk : K (-1) h) : CI (d + 2) 168 [vR 11 (some 0), vI l1, vI w] h K := fun P hP => v168 hP 0 l1 w h (s159 en hn (fun _ => ⟨fun z => absurd rfl z, fun _ => ⟨_, rfl, kk⟩⟩) (fun j hj ej => absurd ej (hno j hj)))
