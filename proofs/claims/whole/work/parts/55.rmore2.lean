/-! the reference's more -/
/-- the reference's stage behind the part at place l - 1 -/
def stg (l : Nat) : Nat := [0, 1, 1, 3, 4, 4, 5, 6].getD l 6
theorem stg_all : (List.range 7).all (fun l => decide (stg l ≤ 5) && decide (5 ≤ stg l ↔ 6 ≤ l) && decide (4 ≤ stg l ↔ 4 ≤ l) && decide (stg l < 3 ↔ l ≤ 2) && decide (1 ≤ stg l ↔ 1 ≤ l) && decide (3 ≤ stg l ↔ 3 ≤ l)) = true := by decide +kernel
theorem stg_f {l : Nat} (h : l ≤ 6) : stg l ≤ 5 ∧ (5 ≤ stg l ↔ 6 ≤ l) ∧ (4 ≤ stg l ↔ 4 ≤ l) ∧ (stg l < 3 ↔ l ≤ 2) ∧ (1 ≤ stg l ↔ 1 ≤ l) ∧ (3 ≤ stg l ↔ 3 ≤ l) := by
  have := all_r stg_all (show l < 7 by omega)
  simp only [Bool.and_eq_true, decide_eq_true_eq] at this
  obtain ⟨⟨⟨⟨⟨h1, h2⟩, h3⟩, h4⟩, h5⟩, h6⟩ := this
  exact ⟨h1, h2, h3, h4, h5, h6⟩
theorem put_out {sh : Nat → Int32} {pl pl' i : Nat} {r : Nat → Int32} (hi : i < 9) (h : pl ≠ pl') : putS sh pl r (3 + 9 * pl' + i) = sh (3 + 9 * pl' + i) := by
  unfold putS
  rw [if_neg (by omega)]
theorem s137 {d n k l p : Nat} {tx : Nat → Int32} {H h : Hp} {sh : Nat → Int32} {K : Int32 → Hp → Prop} (R : RtN (rowH H k sh) h 0 1 n tx p) (S : RSh H) (hk : jI H 11 0 11 = nI k) (hk60 : k ≤ 60) (hl : l ≤ 6) (hem : ∀ pl, l ≤ pl → pl < 7 → ∀ i, i < 9 → sh (3 + 9 * pl + i) = emR i)
    (k0 : ∀ sh' h' p', comS (kd tx n) (np tx n) l p = (none, p') → RtN (rowH H k sh') h' 0 1 n tx p' → K (-1) h')
    (k1 : ∀ pl r h' p', comS (kd tx n) (np tx n) l p = (some (pl, r), p') → l ≤ pl → pl < 7 → ((pl = 0 ∨ pl = 3) → ¬ kd tx n p' = 79) → RtN (rowH H k (putS sh pl r)) h' 0 1 n tx p' → K (nI (stg (pl + 1))) h')
    (k2 : ∀ pl r p1 sh' h' p', comS (kd tx n) (np tx n) l p = (some (pl, r), p1) → l ≤ pl → (pl = 0 ∨ pl = 3) → kd tx n p1 = 79 → onS (kd tx n) (np tx n) (pl + 1) (np tx n p1) = (none, p') → RtN (rowH H k sh') h' 0 1 n tx p' → K (-1) h')
    (k3 : ∀ pl r p1 r' h' p', comS (kd tx n) (np tx n) l p = (some (pl, r), p1) → l ≤ pl → (pl = 0 ∨ pl = 3) → kd tx n p1 = 79 → onS (kd tx n) (np tx n) (pl + 1) (np tx n p1) = (some (pl + 1, r'), p') → RtN (rowH H k (putS (putS sh pl r) (pl + 1) r')) h' 0 1 n tx p' → K (nI (stg (pl + 2))) h') : CI (d + 6) 137 [vR 11 (some 0), vI (nI (stg l))] h K := by
  intro P hP
  obtain ⟨s5, f5, f4, f3, f1, f33⟩ := stg_f hl
  have no : ∀ {sh' h' p'}, comS (kd tx n) (np tx n) l p = (none, p') → RtN (rowH H k sh') h' 0 1 n tx p' → ∃ x, some (vI (-1)) = some (vI x) ∧ K x h' := fun e R' => ⟨_, rfl, k0 _ _ _ e R'⟩
  -- behind the name of charges
  have h240 : ∀ {l5 : Int32} {h2 : Hp}, (54 ≤ kd tx n p ∧ kd tx n p < 60) → ((kd tx n p = 54 ∧ l ≤ 3) ∨ (55 ≤ kd tx n p ∧ kd tx n p < 60 ∧ l ≤ 2)) → ¬ (kd tx n p = 54 ∧ 17 ≤ kd tx n (np tx n p) ∧ kd tx n (np tx n p) ≤ 23 ∧ l = 0) → ¬ (kd tx n p = 54 ∧ kd tx n (np tx n p) = 16) → RtN (rowH H k sh) h2 0 1 n tx (np tx n p) → P 240 [vR 11 (some 0), vI (nI (stg l)), vI (nI (kd tx n p - 53)), vI l5, un] [] h2 := by
    intro l5 h2 hc hl2 n1 n2 R2
    have ec : ∀ y, y = nexS (kd tx n) (np tx n) l (kd tx n p - 54) (np tx n p) → comS (kd tx n) (np tx n) l p = y := by
      intro y e
      unfold comS
      rw [if_neg (by omega), if_neg (by omega), if_pos hl2, e]
    have en : ∀ y, y = (if l ≤ 2 then chaS (kd tx n) (np tx n) 2 (kd tx n p - 54 + 1) (np tx n p) else (none, np tx n p)) → comS (kd tx n) (np tx n) l p = y := by
      intro y e
      refine ec y ?_
      unfold nexS
      rw [if_neg (by omega), if_neg (by omega), e]
    have em : kd tx n p - 54 + 1 = kd tx n p - 53 := by omega
    rw [em] at en
    refine v137_240 hP 0 _ _ l5 h2 (s146 R2.2 (by omega) ?_)
    rw [chS_K]
    by_cases c4 : nmK (kd tx n p - 53) (kd tx n (np tx n p)) = 0
    · rw [if_pos c4]
      refine ⟨fun _ => v137_273 hP 0 _ _ l5 _ _ (v137_274 hP 0 _ _ l5 _ _ _ (no (en _ ?_) R2)), fun z => absurd rfl z⟩
      unfold chaS
      rw [if_pos c4]
      split <;> rfl
    · rw [if_neg c4]
      have hb := nmK_b (kd tx n p - 53) (kd tx n (np tx n p))
      refine ⟨fun z => absurd z (nI_m1 (by omega)), fun _ => ⟨fun c5 => ?_, fun c5 => ?_⟩⟩
      · have c5 : 3 ≤ stg l := (nI_leI (a := 3) (by omega) (by omega)).mp c5
        exact v137_273 hP 0 _ _ l5 _ _ (v137_274 hP 0 _ _ l5 _ _ _ (no (en _ (by rw [if_neg (by omega)])) R2))
      · have c5 : ¬ 3 ≤ stg l := fun z => c5 ((nI_leI (a := 3) (by omega) (by omega)).mpr z)
        have l2 : l ≤ 2 := by omega
        rw [if_pos l2] at en
        refine s148 R2 S hk hk60 (by decide) (hem 2 l2 (by decide)) (by omega) (by omega) (fun sh' h' p' e R' => ⟨fun _ => v137_273 hP 0 _ _ l5 _ _ (v137_274 hP 0 _ _ l5 _ _ _ (no (en _ (chaS_n c4 e).symm) R')), fun z => absurd rfl z⟩) (fun r h' p' e R' => ⟨fun z => absurd z (by decide), fun _ => v137_274 hP 0 _ _ l5 _ _ _ ⟨_, rfl, k1 2 r h' p' (en _ (chaS_s c4 e).symm) l2 (by decide) (fun z => by omega) R'⟩⟩)
  -- behind an opening number
  have h190 : ∀ {l5 : Int32} {h2 : Hp}, (54 ≤ kd tx n p ∧ kd tx n p < 60) → ((kd tx n p = 54 ∧ l ≤ 3) ∨ (55 ≤ kd tx n p ∧ kd tx n p < 60 ∧ l ≤ 2)) → ¬ (kd tx n p = 54 ∧ 17 ≤ kd tx n (np tx n p) ∧ kd tx n (np tx n p) ≤ 23 ∧ l = 0) → (kd tx n p = 54 → l5 = kiS (kd tx n (np tx n p))) → RtN (rowH H k sh) h2 0 1 n tx (np tx n p) → P 190 [vR 11 (some 0), vI (nI (stg l)), vI (nI (kd tx n p - 53)), vI l5, un] [] h2 := by
    intro l5 h2 hc hl2 n1 hl5 R2
    refine v137_190 hP 0 _ _ l5 h2 ⟨fun c => ?_, fun c => ?_⟩
    · have c2 : ¬ kd tx n p = 54 := fun y => c (by rw [y]; rfl)
      exact h240 hc hl2 n1 (fun y => c2 y.1) R2
    · have c2 : kd tx n p = 54 := by
        have y := (nI_eq (a := kd tx n p - 53) (b := 1) (by omega) (by omega)).mp (Classical.not_not.mp c)
        omega
      have hl5 := hl5 c2
      refine ⟨fun c3 => ?_, fun c3 => ?_⟩
      · refine h240 hc hl2 n1 (fun y => c3 ?_) R2
        rw [hl5, y.2]; rfl
      · have c4 : kd tx n (np tx n p) = 16 := by
          have c3 := Classical.not_not.mp c3
          rw [hl5] at c3
          unfold kiS at c3
          by_cases y : 9 ≤ kd tx n (np tx n p) ∧ kd tx n (np tx n p) < 40
          · rw [if_pos y] at c3
            have z := (nI_eq (a := kd tx n (np tx n p) - 9) (b := 7) (by omega) (by omega)).mp c3
            omega
          · rw [if_neg y] at c3
            exact absurd c3 (by decide)
        have ec : comS (kd tx n) (np tx n) l p = plaS (kd tx n) (np tx n) 3 7 (np tx n (np tx n p)) := by
          unfold comS nexS
          rw [if_neg (by omega), if_neg (by omega), if_pos hl2, if_neg (by omega), if_pos (by omega)]
        have l3 : l ≤ 3 := by omega
        unfold plaS at ec
        refine s125n R2 (fun h3 R3 => ?_)
        rw [← put_self (hem 3 l3 (by decide))] at R3
        refine s130 R3 (fun c5 => ?_) (fun c5 h4 R4 => ?_)
        · rw [if_neg c5] at ec
          exact s138 (pl := 3) R3 S hk hk60 (by decide) (fun h6 R6 => ⟨fun _ => v137_238 hP 0 _ _ _ _ _ (v137_239 hP 0 _ _ _ _ _ _ (no ec R6)), fun z => absurd rfl z⟩)
        · rw [if_pos c5] at ec
          refine s138 (pl := 3) R4 S hk hk60 (by decide) (fun h6 R6 => ⟨fun z => absurd z (nI_m1 (by omega)), fun _ => ?_⟩)
          refine s145 (pl := 4) R6 S hk hk60 (by decide) (fun i hi => by rw [put_out hi (by decide)]; exact hem 4 (by omega) (by decide) i hi) (fun c6 => ⟨fun z => absurd z (by decide), fun _ => v137_239 hP 0 _ _ _ _ _ _ ⟨_, rfl, k1 3 _ _ _ ec l3 (by decide) (fun _ => c6) R6⟩⟩) (fun c6 sh' h' p' e R' => ⟨fun _ => v137_238 hP 0 _ _ _ _ _ (v137_239 hP 0 _ _ _ _ _ _ ⟨_, rfl, k2 3 _ _ _ _ _ ec l3 (by decide) c6 e R'⟩), fun z => absurd rfl z⟩) (fun c6 r h' p' e R' => ⟨fun z => absurd z (by decide), fun _ => v137_239 hP 0 _ _ _ _ _ _ ⟨_, rfl, k3 3 _ _ _ _ _ ec l3 (by decide) c6 e R'⟩⟩)
  have h129 : ∀ {l5 : Int32} {h2 : Hp}, (54 ≤ kd tx n p ∧ kd tx n p < 60) → ((kd tx n p = 54 ∧ l ≤ 3) ∨ (55 ≤ kd tx n p ∧ kd tx n p < 60 ∧ l ≤ 2)) → (kd tx n p = 54 → l5 = kiS (kd tx n (np tx n p))) → RtN (rowH H k sh) h2 0 1 n tx (np tx n p) → P 129 [vR 11 (some 0), vI (nI (stg l)), vI (nI (kd tx n p - 53)), un, un] [vI l5] h2 := by
    intro l5 h2 hc hl2 hl5 R2
    refine v137_129 hP 0 _ _ l5 h2 ⟨fun c => ?_, fun c => ?_⟩
    · have c2 : ¬ kd tx n p = 54 := fun y => c (by rw [y]; rfl)
      exact h190 hc hl2 (fun y => c2 y.1) hl5 R2
    · have c2 : kd tx n p = 54 := by
        have y := (nI_eq (a := kd tx n p - 53) (b := 1) (by omega) (by omega)).mp (Classical.not_not.mp c)
        omega
      have hl5' := hl5 c2
      by_cases y : 17 ≤ kd tx n (np tx n p) ∧ kd tx n (np tx n p) ≤ 23
      · have e5 : l5 = nI (kd tx n (np tx n p) - 9) := by
          rw [hl5']; unfold kiS; rw [if_pos (by omega)]
        rw [e5]
        rw [e5] at hl5
        refine ⟨fun z => absurd z (nI_nlt (b := 8) (by omega) (by omega)), fun _ => ⟨fun z => absurd z (nI_nlt (a := 14) (by omega) (by omega)), fun _ => ⟨fun z => ?_, fun z => ?_⟩⟩⟩
        · have z : 1 ≤ stg l := (nI_leI (a := 1) (by omega) (by omega)).mp z
          exact h190 hc hl2 (by omega) hl5 R2
        · have z : ¬ 1 ≤ stg l := fun w => z ((nI_leI (a := 1) (by omega) (by omega)).mpr w)
          have l0 : l = 0 := by omega
          have ec : comS (kd tx n) (np tx n) l p = plaS (kd tx n) (np tx n) 0 (kd tx n (np tx n p) - 9) (np tx n (np tx n p)) := by
            unfold comS nexS
            rw [if_neg (by omega), if_neg (by omega), if_pos hl2, if_pos (by omega)]
          unfold plaS at ec
          refine s125n R2 (fun h3 R3 => ?_)
          rw [← put_self (hem 0 (by omega) (by decide))] at R3
          refine s130 R3 (fun c5 => ?_) (fun c5 h4 R4 => ?_)
          · rw [if_neg c5] at ec
            exact s138 (pl := 0) R3 S hk hk60 (by decide) (fun h6 R6 => ⟨fun _ => v137_188 hP 0 _ _ _ _ _ (v137_189 hP 0 _ _ _ _ _ _ (no ec R6)), fun z => absurd rfl z⟩)
          · rw [if_pos c5] at ec
            refine s138 (pl := 0) R4 S hk hk60 (by decide) (fun h6 R6 => ⟨fun z => absurd z (nI_m1 (by omega)), fun _ => ?_⟩)
            refine s145 (pl := 1) R6 S hk hk60 (by decide) (fun i hi => by rw [put_out hi (by decide)]; exact hem 1 (by omega) (by decide) i hi) (fun c6 => ⟨fun z => absurd z (by decide), fun _ => v137_189 hP 0 _ _ _ _ _ _ ⟨_, rfl, k1 0 _ _ _ ec (by omega) (by decide) (fun _ => c6) R6⟩⟩) (fun c6 sh' h' p' e R' => ⟨fun _ => v137_188 hP 0 _ _ _ _ _ (v137_189 hP 0 _ _ _ _ _ _ ⟨_, rfl, k2 0 _ _ _ _ _ ec (by omega) (by decide) c6 e R'⟩), fun z => absurd rfl z⟩) (fun c6 r h' p' e R' => ⟨fun z => absurd z (by decide), fun _ => v137_189 hP 0 _ _ _ _ _ _ ⟨_, rfl, k3 0 _ _ _ _ _ ec (by omega) (by decide) c6 e R'⟩⟩)
      · have go := h190 (l5 := l5) hc hl2 (by omega) hl5 R2
        refine ⟨fun _ => go, fun z1 => ⟨fun _ => go, fun z2 => absurd ?_ y⟩⟩
        have hl6 := hl5'
        unfold kiS at hl6
        by_cases w : 9 ≤ kd tx n (np tx n p) ∧ kd tx n (np tx n p) < 40
        · rw [if_pos w] at hl6
          rw [hl6] at z1 z2
          have w1 : ¬ kd tx n (np tx n p) - 9 < 8 := fun w2 => z1 (nI_lt (b := 8) w2 (by omega))
          have w3 : ¬ 14 < kd tx n (np tx n p) - 9 := fun w2 => z2 (nI_lt (a := 14) w2 (by omega))
          omega
        · rw [if_neg w] at hl6
          rw [hl6] at z1
          exact absurd (by decide) z1
  have h86 : ¬ (kd tx n p = 76 ∧ l ≤ 5) → ¬ kd tx n p = 77 → P 86 [vR 11 (some 0), vI (nI (stg l)), un, un, un] [] h := by
    intro n1 n2
    refine v137_86 hP 0 _ h (s142 R.2 ?_)
    unfold mnS
    by_cases hc : 54 ≤ kd tx n p ∧ kd tx n p < 60
    · rw [if_pos hc]
      have bad : ¬ ((kd tx n p = 54 ∧ l ≤ 3) ∨ (55 ≤ kd tx n p ∧ kd tx n p < 60 ∧ l ≤ 2)) → P 110 [vR 11 (some 0), vI (nI (stg l)), vI (nI (kd tx n p - 53)), un, un] [] h := by
        intro nb
        refine v137_110 hP 0 _ _ h (no ?_ R)
        unfold comS
        rw [if_neg n1, if_neg (by omega), if_neg nb]
      have good : ((kd tx n p = 54 ∧ l ≤ 3) ∨ (55 ≤ kd tx n p ∧ kd tx n p < 60 ∧ l ≤ 2)) → P 112 [vR 11 (some 0), vI (nI (stg l)), vI (nI (kd tx n p - 53)), un, un] [] h := by
        intro hl2
        refine v137_112 hP 0 _ _ h (s125n R (fun h2 R2 => ⟨fun c => ?_, fun c => s144 R2.2 ?_⟩))
        · have c2 : ¬ kd tx n p = 54 := fun y => c (by rw [y]; rfl)
          exact h129 hc hl2 (fun y => absurd y c2) R2
        · exact h129 hc hl2 (fun _ => rfl) R2
      refine ⟨fun z => absurd z (nI_ne0 (by omega) (by omega)), fun _ => ⟨fun z => ?_, fun z => ⟨fun z2 => ?_, fun z2 => ⟨fun z3 => ?_, fun z3 => ?_⟩⟩⟩⟩
      · have z : 4 ≤ stg l := (nI_leI (a := 4) (by omega) (by omega)).mp z
        exact bad (by omega)
      · have z2 : stg l < 3 := (nI_ltI (b := 3) (by omega) (by omega)).mp z2
        exact good (by omega)
      · have z : ¬ 4 ≤ stg l := fun w => z ((nI_leI (a := 4) (by omega) (by omega)).mpr w)
        have z3 : kd tx n p - 53 ≤ 1 := (nI_leI (b := 1) (by omega) (by omega)).mp z3
        exact good (by omega)
      · have z2 : ¬ stg l < 3 := fun w => z2 ((nI_ltI (b := 3) (by omega) (by omega)).mpr w)
        have z3 : ¬ kd tx n p - 53 ≤ 1 := fun w => z3 ((nI_leI (b := 1) (by omega) (by omega)).mpr w)
        exact bad (by omega)
    · rw [if_neg hc]
      refine ⟨fun _ => v137_110 hP 0 _ _ h (no ?_ R), fun z => absurd rfl z⟩
      unfold comS
      rw [if_neg n1, if_neg (by omega), if_neg (by omega)]
  have h65 : ¬ (kd tx n p = 76 ∧ l ≤ 5) → P 65 [vR 11 (some 0), vI (nI (stg l)), un, un, un] [] h := by
    intro n1
    refine v137_65 hP 0 _ h (s133 (i := 77) R.2 (by decide +kernel) ⟨fun c => h86 n1 (bi0.mp c), fun c => ⟨fun z => absurd z (nI_ge (b := 6) (by omega) (by omega)), fun _ => ?_⟩⟩)
    have c : kd tx n p = 77 := Classical.not_not.mp (fun y => c (bi0.mpr y))
    have ec : comS (kd tx n) (np tx n) l p = marS (kd tx n) (np tx n) (np tx n p) := by
      unfold comS
      rw [if_neg n1, if_pos ⟨c, hl⟩]
    exact s139 R S hk hk60 (hem 6 hl (by decide)) (fun sh' h' p' e R' => ⟨_, rfl, k0 _ _ _ (ec.trans e) R'⟩) (fun r h' p' e R' => ⟨_, rfl, k1 6 r h' p' (ec.trans e) hl (by decide) (fun z => by omega) R'⟩)
  refine v137 hP 0 _ h (s133 (i := 76) R.2 (by decide +kernel) ⟨fun c => h65 (fun z => bi0.mp c z.1), fun c => ⟨fun z => ?_, fun z => ?_⟩⟩)
  · have z : 5 ≤ stg l := (nI_leI (a := 5) (by omega) (by omega)).mp z
    exact h65 (by omega)
  · have c : kd tx n p = 76 := Classical.not_not.mp (fun y => c (bi0.mpr y))
    have z : ¬ 5 ≤ stg l := fun w => z ((nI_leI (a := 5) (by omega) (by omega)).mpr w)
    have ec : comS (kd tx n) (np tx n) l p = borS (kd tx n) (np tx n) (np tx n p) := by
      unfold comS
      rw [if_pos (by omega)]
    unfold borS at ec
    refine s125n R (fun h1 R1 => s134 (i := 54) R1 (by decide +kernel) (fun c2 h2 R2 => ⟨fun y => absurd y (by decide), fun _ => ?_⟩) (fun c2 => ⟨fun _ => v137_39 hP 0 _ _ (no (by rw [ec, if_neg c2]) R1), fun y => absurd rfl y⟩))
    rw [if_pos c2] at ec
    refine s134 (i := 24) R2 (by decide +kernel) (fun c3 h3 R3 => ⟨fun _ => ?_, fun y => absurd (by decide) y⟩) (fun c3 => ⟨fun y => absurd rfl y, fun _ => v137_39 hP 0 _ _ (no (by rw [ec, if_neg c3]) R2)⟩)
    rw [if_pos c3] at ec
    unfold plaS at ec
    rw [← put_self (hem 5 (by omega) (by decide))] at R3
    refine s130 R3 (fun c5 => ?_) (fun c5 h4 R4 => ?_)
    · rw [if_neg c5] at ec
      exact s138 (pl := 5) R3 S hk hk60 (by decide) (fun h6 R6 => ⟨fun y => absurd rfl y, fun _ => v137_64 hP 0 _ _ _ _ (no ec R6)⟩)
    · rw [if_pos c5] at ec
      exact s138 (pl := 5) R4 S hk hk60 (by decide) (fun h6 R6 => ⟨fun _ => v137_64 hP 0 _ _ _ _ ⟨_, rfl, k1 5 _ _ _ ec (by omega) (by decide) (fun w => by omega) R6⟩, fun y => absurd (nI_m1 (by omega)) y⟩)
