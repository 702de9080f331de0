/-! Tokens.number, Tokens.signNumber -/
def numG (tx : Nat → Int32) : Nat → Nat → Int32 → Int32
  | 0, _, v => v
  | k + 1, p, v => numG tx k (p + 1) (v * 10 + (tx p - 48))
theorem num30 {d o a n e : Nat} {tx : Nat → Int32} {h : Hp} {l1 : Int32} {Q : Option AV → Hp → Prop} {P : Nat → List AV → List AV → Hp → Prop} (hP : Cl (Call d) 82 Q P) (T : TokX h o a n tx) (he : jI h 9 o 4 = nI e) (hen : e ≤ n) : ∀ (k p : Nat) (v : Int32), e = p + k → Q (some (vI (numG tx k p v))) h → P 30 [vR 9 (some o), vI l1, vI v, vI (nI p)] [] h
  | 0, p, v, hk, kk => by
    have h30 := T.1
    refine v82_30 hP o l1 v (nI p) h ⟨fun _ => kk, fun c => absurd ?_ c⟩
    rw [he]; exact nI_le (by omega) (by omega)
  | k + 1, p, v, hk, kk => by
    have h30 := T.1
    refine v82_30 hP o l1 v (nI p) h ⟨fun c => absurd c ?_, fun _ => dr_of T.2.2.1 ⟨?_, ?_⟩⟩
    · rw [he]; exact nI_ge (by omega) (by omega)
    · exact vp_in_nI (by have := T.2.2.2.1; omega) (by have := T.2.2.2.2.1; omega)
    · have ht : jI h 23 a (ix (nI p)) = tx p := by
        rw [show ix (nI p) = p from nI_clamp (by omega)]
        exact T.2.2.2.2.2 p (by omega)
      rw [ht, nI_1]
      exact num30 hP T he hen k (p + 1) _ (by omega) kk
/-- the number told at token q, of at most m digits -/
def numS (tx : Nat → Int32) (q : Nat × Nat × Nat) (m : Nat) : Int32 := if q.1 = 2 ∧ q.2.2 - q.2.1 ≤ m then numG tx (q.2.2 - q.2.1) q.2.1 0 else -1
theorem s82 {d o a n m : Nat} {tx : Nat → Int32} {q : Nat × Nat × Nat} {h : Hp} {K : Int32 → Hp → Prop} (T : TokAt h o a n tx q) (hm : m < 2 ^ 30) (k : K (numS tx q m) h) : CI (d + 1) 82 [vR 9 (some o), vI (nI m)] h K := by
  intro P hP
  obtain ⟨t1, t2, t3, t4, t5, t6, t7, -⟩ := T
  have h30 := t1.1
  unfold numS at k
  refine v82 hP o (nI m) h ⟨fun c => ⟨_, rfl, ?_⟩, fun c => ⟨fun c2 => ?_, fun c2 => ⟨_, rfl, ?_⟩⟩⟩
  · rw [if_neg (fun z => c (by rw [t2, z.1]; rfl))] at k; exact k
  · have hq : q.1 = 2 := by
      have z2 := Classical.not_not.mp c
      rw [t2] at z2
      exact (nI_eq (a := q.1) (b := 2) (by omega) (by omega)).mp z2
    rw [t3, t4, pk_sub t5] at c2
    have hle : q.2.2 - q.2.1 ≤ m := by
      rcases Nat.lt_or_ge m (q.2.2 - q.2.1) with z | z
      · exact absurd c2 (nI_ge z (by omega))
      · exact z
    rw [if_pos ⟨hq, hle⟩] at k
    rw [t3]
    exact num30 hP t1 t4 t6 _ _ 0 (by omega) ⟨_, rfl, k⟩
  · rw [t3, t4, pk_sub t5] at c2
    rw [if_neg (fun z => c2 (nI_le z.2 (by omega)))] at k; exact k
/-- the number of a sign -/
def sgB (b : Int32) : Int32 := if b = 43 then 0 else if b = 45 then 1 else if b = 42 then 2 else if b = 61 then 3 else if b = 60 then 4 else if b = 62 then 5 else -1
theorem s238 {d : Nat} {c : Int32} {h : Hp} {K : Int32 → Hp → Prop} (k : K (sgB c.toInt8.toInt32) h) : CI (d + 1) 238 [vR 41 (some 32), vI c, vI 0, vI 6] h K := by
  intro P hP
  refine v238 hP (some 32) c 0 6 h ?_
  generalize c.toInt8.toInt32 = b at k ⊢
  unfold sgB at k
  refine v238_7 hP (some 32) c 0 6 b 0 h ⟨fun z => absurd z (by decide), fun _ => ⟨vp_in_nI (n := 0) (N := (romB 32).length) (by decide) (by decide), fun z0 => ?_, fun z0 => ⟨_, rfl, ?_⟩⟩⟩
  · have z0 : ¬ b = 43 := fun e => z0 (e ▸ rfl)
    rw [if_neg z0] at k
    refine v238_7 hP (some 32) c 0 6 b 1 h ⟨fun z => absurd z (by decide), fun _ => ⟨vp_in_nI (n := 1) (N := (romB 32).length) (by decide) (by decide), fun z0 => ?_, fun z0 => ⟨_, rfl, ?_⟩⟩⟩
    · have z0 : ¬ b = 45 := fun e => z0 (e ▸ rfl)
      rw [if_neg z0] at k
      refine v238_7 hP (some 32) c 0 6 b 2 h ⟨fun z => absurd z (by decide), fun _ => ⟨vp_in_nI (n := 2) (N := (romB 32).length) (by decide) (by decide), fun z0 => ?_, fun z0 => ⟨_, rfl, ?_⟩⟩⟩
      · have z0 : ¬ b = 42 := fun e => z0 (e ▸ rfl)
        rw [if_neg z0] at k
        refine v238_7 hP (some 32) c 0 6 b 3 h ⟨fun z => absurd z (by decide), fun _ => ⟨vp_in_nI (n := 3) (N := (romB 32).length) (by decide) (by decide), fun z0 => ?_, fun z0 => ⟨_, rfl, ?_⟩⟩⟩
        · have z0 : ¬ b = 61 := fun e => z0 (e ▸ rfl)
          rw [if_neg z0] at k
          refine v238_7 hP (some 32) c 0 6 b 4 h ⟨fun z => absurd z (by decide), fun _ => ⟨vp_in_nI (n := 4) (N := (romB 32).length) (by decide) (by decide), fun z0 => ?_, fun z0 => ⟨_, rfl, ?_⟩⟩⟩
          · have z0 : ¬ b = 60 := fun e => z0 (e ▸ rfl)
            rw [if_neg z0] at k
            refine v238_7 hP (some 32) c 0 6 b 5 h ⟨fun z => absurd z (by decide), fun _ => ⟨vp_in_nI (n := 5) (N := (romB 32).length) (by decide) (by decide), fun z0 => ?_, fun z0 => ⟨_, rfl, ?_⟩⟩⟩
            · have z0 : ¬ b = 62 := fun e => z0 (e ▸ rfl)
              rw [if_neg z0] at k
              exact v238_7 hP (some 32) c 0 6 b 6 h ⟨fun z => ⟨_, rfl, k⟩, fun z => absurd (by decide) z⟩
            · have z0 : b = 62 := (Classical.not_not.mp z0).symm
              rw [if_pos z0] at k; exact k
          · have z0 : b = 60 := (Classical.not_not.mp z0).symm
            rw [if_pos z0] at k; exact k
        · have z0 : b = 61 := (Classical.not_not.mp z0).symm
          rw [if_pos z0] at k; exact k
      · have z0 : b = 42 := (Classical.not_not.mp z0).symm
        rw [if_pos z0] at k; exact k
    · have z0 : b = 45 := (Classical.not_not.mp z0).symm
      rw [if_pos z0] at k; exact k
  · have z0 : b = 43 := (Classical.not_not.mp z0).symm
    rw [if_pos z0] at k; exact k
theorem s236 {d : Nat} {c : Int32} {h : Hp} {K : Int32 → Hp → Prop} (hc : inS 0 255 c = true) (k : K (sgB c.toInt8.toInt32) h) : CI (d + 2) 236 [vR 41 (some 32), vI c, vI 0, vI 6] h K := by
  intro P hP
  refine v236 hP (some 32) c 0 6 h (s237 ⟨fun _ => ⟨fun _ => s238 ⟨_, rfl, k⟩, fun z => absurd (by decide) z⟩, fun z => absurd (by rw [hc]; decide) z⟩)
theorem s232 {d : Nat} {c : Int32} {h : Hp} {K : Int32 → Hp → Prop} (hc : inS 0 255 c = true) (k : K (sgB c.toInt8.toInt32) h) : CI (d + 3) 232 [vR 40 (some 32), vI c, vI 0] h K := by
  intro P hP
  refine v232 hP 32 c 0 h (s227 ⟨fun z => absurd z (by decide), fun _ => s228 (s236 hc ⟨_, rfl, k⟩)⟩)
theorem s231 {d : Nat} {c : Int32} {h : Hp} {K : Int32 → Hp → Prop} (hc : inS 0 255 c = true) (k : K (sgB c.toInt8.toInt32) h) : CI (d + 4) 231 [vR 40 (some 32), vI c] h K := fun P hP => v231 hP 32 c h (s232 hc ⟨_, rfl, k⟩)
theorem inS_ex {c : Int32} (hc : inS 0 255 c = true) : ∃ j, j < 256 ∧ c = nI j := by
  unfold inS at hc
  simp only [Bool.and_eq_true, Bool.not_eq_true', decide_eq_false_iff_not] at hc
  have h1 := hc.1
  have h2 := hc.2
  simp only [Int32.lt_iff_toInt_lt, Int32.reduceToInt] at h1 h2
  refine ⟨c.toInt.toNat, by omega, ?_⟩
  rw [← Int32.toInt_inj, nI_toInt (by omega)]
  omega
theorem sgB_all : (List.range 256).all (fun j => decide (sgB (nI j).toInt8.toInt32 = sgB (nI j))) = true := by decide +kernel
theorem sgB_b {c : Int32} (hc : inS 0 255 c = true) : sgB c.toInt8.toInt32 = sgB c := by
  obtain ⟨j, hj, e⟩ := inS_ex hc
  subst e
  exact of_decide_eq_true (List.all_eq_true.mp sgB_all j (List.mem_range.mpr hj))
def sgS (tx : Nat → Int32) (q : Nat × Nat × Nat) : Int32 := if q.1 = 3 then sgB (tx q.2.1) else -1
theorem s84 {d o a n : Nat} {tx : Nat → Int32} {q : Nat × Nat × Nat} {h : Hp} {K : Int32 → Hp → Prop} (T : TokAt h o a n tx q) (hc : ∀ j, inS 0 255 (tx j) = true) (k : K (sgS tx q) h) : CI (d + 5) 84 [vR 9 (some o)] h K := by
  intro P hP
  obtain ⟨t1, t2, t3, t4, t5, t6, t7, t8⟩ := T
  have h30 := t1.1
  unfold sgS at k
  refine v84 hP o h ⟨fun z => ⟨_, rfl, ?_⟩, fun z => ?_⟩
  · rw [if_neg (fun w => z (by rw [t2, w]; rfl))] at k; exact k
  have hq : q.1 = 3 := by
    have z2 := Classical.not_not.mp z
    rw [t2] at z2
    exact (nI_eq (a := q.1) (b := 3) (by omega) (by omega)).mp z2
  have hlt := t8 hq
  rw [if_pos hq] at k
  refine ⟨fun w => absurd w (by rw [t1.2.1, t3]; exact nI_ge hlt (by omega)), fun _ => dr_of t1.2.2.1 ⟨by rw [t3]; exact vp_in_nI (by have := t1.2.2.2.1; omega) (by have := t1.2.2.2.2.1; omega), ?_⟩⟩
  have ht : jI h 23 a (ix (jI h 9 o 3)) = tx q.2.1 := by
    rw [t3, show ix (nI q.2.1) = q.2.1 from nI_clamp (by omega)]
    exact t1.2.2.2.2.2 _ hlt
  rw [ht]
  exact s231 (hc _) ⟨_, rfl, by rw [sgB_b (hc _)]; exact k⟩
