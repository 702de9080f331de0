/-- Tokens.takeByte(c) -/
theorem s83 {d o a n : Nat} {c : Int32} {tx : Nat → Int32} {q : Nat × Nat × Nat} {h : Hp} {K : Int32 → Hp → Prop} (T : TokAt h o a n tx q) (k0 : ¬ (q.1 = 3 ∧ tx q.2.1 = c) → K 0 h) (k1 : q.1 = 3 → tx q.2.1 = c → K 1 (tokH h o (tkS tx n q.2.2))) : CI (d + 2) 83 [vR 9 (some o), vI c] h K := by
  intro P hP
  have T0 := T
  obtain ⟨t1, t2, t3, t4, t5, t6, t7, t8⟩ := T
  have h30 := t1.1
  refine v83 hP o c h ⟨fun z => ⟨_, rfl, k0 (fun w => z (by rw [t2, w.1]; rfl))⟩, fun z => ?_⟩
  have hq : q.1 = 3 := by
    have z2 := Classical.not_not.mp z
    rw [t2] at z2
    exact (nI_eq (a := q.1) (b := 3) (by omega) (by omega)).mp z2
  have hlt := t8 hq
  refine ⟨fun w => absurd w (by rw [t1.2.1, t3]; exact nI_ge hlt (by omega)), fun _ => dr_of t1.2.2.1 ⟨by rw [t3]; exact vp_in_nI (by have := t1.2.2.2.1; omega) (by have := t1.2.2.2.2.1; omega), ?_⟩⟩
  have ht : jI h 23 a (ix (jI h 9 o 3)) = tx q.2.1 := by
    rw [t3, show ix (nI q.2.1) = q.2.1 from nI_clamp (by omega)]
    exact t1.2.2.2.2.2 _ hlt
  rw [ht]
  exact ⟨fun w => s77 (d := d) t1 t4 t6 ⟨_, rfl, k1 hq w⟩, fun w => ⟨_, rfl, k0 (fun u => w u.2)⟩⟩
/-- behind begin(text, n): the text is told, the place is 0 -/
def begH (h : Hp) (o a n : Nat) : Hp := wI (wI (wR h 9 o 0 (some a)) 9 o 1 (nI n)) 9 o 4 0
theorem begH_X {h : Hp} {o a n : Nat} {tx : Nat → Int32} (hn : n < 2 ^ 30) (hl : n ≤ jLen h 23 a) (hl2 : jLen h 23 a < 2 ^ 30) (ht : ∀ j, j < n → jI h 23 a j = tx j) : TokX (begH h o a n) o a n tx := by
  refine ⟨hn, ?_, up3_eq _ _ _ _ _, hl, hl2, fun j hj => ?_⟩
  · show jI (wI (wI (wR h 9 o 0 (some a)) 9 o 1 (nI n)) 9 o 4 0) 9 o 1 = nI n
    rw [jI_k (by decide)]; exact jI_same _ _ _ _ _
  · show jI (wI (wI (wR h 9 o 0 (some a)) 9 o 1 (nI n)) 9 o 4 0) 23 a j = tx j
    rw [jI_t (by decide), jI_t (by decide)]; exact ht j hj
/-- Tokens.begin(text, n) -/
theorem s76 {d o a n : Nat} {tx : Nat → Int32} {h : Hp} {K : Hp → Prop} (hn : n < 2 ^ 30) (hl : n ≤ jLen h 23 a) (hl2 : jLen h 23 a < 2 ^ 30) (ht : ∀ j, j < n → jI h 23 a j = tx j) (k : K (tokH (begH h o a n) o (tkS tx n 0))) : CV (d + 2) 76 [vR 9 (some o), vR 23 (some a), vI (nI n)] h K := by
  intro P hP
  refine v76 hP o (some a) (nI n) h ?_
  have e1 : mx2 0 (mn2 (nI n) (Int32.ofNat (jLen (wR h 9 o 0 (some a)) 23 a))) = nI n := by
    have e2 : mn2 (nI n) (Int32.ofNat (jLen h 23 a)) = nI n := by
      unfold mn2
      exact if_neg (nI_nlt hl (by omega))
    show mx2 0 (mn2 (nI n) (Int32.ofNat (jLen h 23 a))) = nI n
    rw [e2]
    unfold mx2
    by_cases z : n = 0
    · subst z
      exact if_neg (by decide)
    · exact if_pos (by rw [← nI_0]; exact nI_lt (by omega) (by omega))
  show CV d.succ 77 [vR 9 (some o)] (wI (wI (wR h 9 o 0 (some a)) 9 o 1 (mx2 0 (mn2 (nI n) (Int32.ofNat (jLen (wR h 9 o 0 (some a)) 23 a))))) 9 o 4 0) (fun h2 => none = none ∧ K h2)
  rw [e1]
  exact s77 (h := begH h o a n) (p := 0) (begH_X hn hl hl2 ht) (by show jI (wI _ 9 o 4 0) 9 o 4 = nI 0; rw [jI_same, nI_0]) (Nat.zero_le _) ⟨rfl, k⟩
