/-! both readers over codes: the class's Tokens at p, the reference's at p -/
def Byt (tx : Nat → Int32) : Prop := ∀ j, inS 0 255 (tx j) = true
theorem tok3 (f : Nat → Nat → Nat → Int32) (o : Nat) (b x t b' x' t' : Int32) : up3 (up3 (up3 (up3 (up3 (up3 f 9 o 3 b) 9 o 4 x) 9 o 2 t) 9 o 3 b') 9 o 4 x') 9 o 2 t' = up3 (up3 (up3 f 9 o 3 b') 9 o 4 x') 9 o 2 t' := by
  funext r a k
  unfold up3
  by_cases h2 : r = 9 ∧ a = o ∧ k = 2
  · simp only [if_pos h2]
  · by_cases h4 : r = 9 ∧ a = o ∧ k = 4
    · simp only [if_neg h2, if_pos h4]
    · by_cases h3 : r = 9 ∧ a = o ∧ k = 3
      · simp only [if_neg h2, if_neg h4, if_pos h3]
      · simp only [if_neg h2, if_neg h4, if_neg h3]
theorem tokH_tokH (H : Hp) (o : Nat) (q q' : Nat × Nat × Nat) : tokH (tokH H o q) o q' = tokH H o q' := by
  show (jN H, jLen H, up3 (up3 (up3 (up3 (up3 (up3 (jI H) 9 o 3 (nI q.2.1)) 9 o 4 (nI q.2.2)) 9 o 2 (nI q.1)) 9 o 3 (nI q'.2.1)) 9 o 4 (nI q'.2.2)) 9 o 2 (nI q'.1), jL H, jR H, jC H, jZ H) = _
  rw [tok3]
  rfl
def TkN (H h : Hp) (o a n : Nat) (tx : Nat → Int32) (p : Nat) : Prop := (∃ q, h = tokH H o q) ∧ TokAt h o a n tx (tkS tx n p) ∧ p ≤ n
theorem s77n {d o a n p : Nat} {tx : Nat → Int32} {H h : Hp} {K : Hp → Prop} (R : TkN H h o a n tx p) (k : ∀ h', TkN H h' o a n tx (np tx n p) → K h') : CV (d + 1) 77 [vR 9 (some o)] h K := by
  obtain ⟨⟨q, e⟩, T, hp⟩ := R
  have hnp := np_le (tx := tx) hp
  refine s77 T.1 T.2.2.2.1 hnp (k _ ⟨⟨tkS tx n (np tx n p), by rw [e, tokH_tokH]; rfl⟩, tokH_at T.1 hnp, hnp⟩)
theorem rom_len_all : txbL.all (fun l => decide (l.length < 2 ^ 20)) = true := by decide +kernel
theorem rom_len (b : Nat) : (romB b).length < 2 ^ 20 := by
  unfold romB
  rw [List.getD_eq_getElem?_getD]
  cases hl : txbL[b]? with
  | none => exact (by decide : (0 : Nat) < 2 ^ 20)
  | some l => exact of_decide_eq_true (List.all_eq_true.mp rom_len_all l (List.mem_of_getElem? hl))
theorem s81n {d o a n p b : Nat} {tx : Nat → Int32} {H h : Hp} {K : Int32 → Hp → Prop} (R : TkN H h o a n tx p) (hb : b < 32) (k : K (amT b (kd tx n p)) h) : CI (d + 3) 81 [vR 9 (some o), vR 40 (some b)] h K := s81a R.2.1 (rom_len b) (by rw [amS_T hb]; exact k)
theorem s80n {d o a n p b : Nat} {tx : Nat → Int32} {H h : Hp} {K : Int32 → Hp → Prop} (R : TkN H h o a n tx p) (hb : b < 32) (k0 : amT b (kd tx n p) = -1 → K (-1) h) (k1 : ¬ amT b (kd tx n p) = -1 → ∀ h', TkN H h' o a n tx (np tx n p) → K (amT b (kd tx n p)) h') : CI (d + 4) 80 [vR 9 (some o), vR 40 (some b)] h K := by
  intro P hP
  refine v80 hP o (some b) h (s81n R hb ⟨fun c => ⟨_, rfl, ?_⟩, fun c => s77n R (fun h' R' => ⟨_, rfl, k1 c h' R'⟩)⟩)
  rw [c]; exact k0 c
theorem s79n {d o a n p b : Nat} {tx : Nat → Int32} {H h : Hp} {K : Int32 → Hp → Prop} (R : TkN H h o a n tx p) (hb : b < 32) (k0 : amT b (kd tx n p) = -1 → K 0 h) (k1 : ¬ amT b (kd tx n p) = -1 → ∀ h', TkN H h' o a n tx (np tx n p) → K 1 h') : CI (d + 5) 79 [vR 9 (some o), vR 40 (some b)] h K := by
  intro P hP
  refine v79 hP o (some b) h (s80n R hb (fun c => ⟨fun _ => ⟨_, rfl, k0 c⟩, fun z => absurd rfl z⟩) (fun c h' R' => ⟨fun z => absurd z c, fun _ => ⟨_, rfl, k1 c h' R'⟩⟩))
theorem tkS_3 {tx : Nat → Int32} {n p : Nat} (hp : p ≤ n) : (tkS tx n p).1 = 0 ∨ (tkS tx n p).1 = 1 ∨ (tkS tx n p).1 = 2 ∨ (tkS tx n p).1 = 3 := by
  have := (tkS_ok (tx := tx) hp).2.2.1
  omega
theorem kd_cases {tx : Nat → Int32} {n p : Nat} (hp : p ≤ n) : ((tkS tx n p).1 = 0 ∧ kd tx n p = 200) ∨ ((tkS tx n p).1 = 1 ∧ kd tx n p ≤ 92) ∨ ((tkS tx n p).1 = 2 ∧ kd tx n p = 201) ∨ ((tkS tx n p).1 = 3 ∧ kd tx n p = 300 + ix (tx (tkS tx n p).2.1)) := by
  unfold kd kdQ
  rcases tkS_3 (tx := tx) hp with h | h | h | h
  · exact Or.inl ⟨h, by rw [h]; rfl⟩
  · refine Or.inr (Or.inl ⟨h, ?_⟩)
    rw [if_pos h]
    exact cdW_le _
  · exact Or.inr (Or.inr (Or.inl ⟨h, by rw [h]; rfl⟩))
  · exact Or.inr (Or.inr (Or.inr ⟨h, by rw [h]; rfl⟩))
theorem kd_end {tx : Nat → Int32} {n p : Nat} (hp : p ≤ n) : kd tx n p = 200 ↔ (tkS tx n p).1 = 0 := by
  rcases kd_cases (tx := tx) hp with h | h | h | h <;> omega
theorem kd_byte {tx : Nat → Int32} {n p c : Nat} (hB : Byt tx) (hp : p ≤ n) (hc : c < 256) : kd tx n p = 300 + c ↔ ((tkS tx n p).1 = 3 ∧ tx (tkS tx n p).2.1 = nI c) := by
  have key : ix (tx (tkS tx n p).2.1) = c ↔ tx (tkS tx n p).2.1 = nI c := by
    obtain ⟨j, hj, e⟩ := inS_ex (hB (tkS tx n p).2.1)
    rw [e, show ix (nI j) = j from nI_clamp (by omega)]
    exact (nI_eq (a := j) (b := c) (by omega) (by omega)).symm
  rcases kd_cases (tx := tx) hp with h | h | h | h
  · omega
  · omega
  · omega
  · rw [h.2, ← key]
    omega
theorem s78n {d o a n p : Nat} {tx : Nat → Int32} {H h : Hp} {K : Int32 → Hp → Prop} (R : TkN H h o a n tx p) (k : K (bi (decide (kd tx n p = 200))) h) : CI (d + 1) 78 [vR 9 (some o)] h K := by
  refine s78 R.2.1 (fun c => ?_) (fun c => ?_)
  · rw [decide_eq_true ((kd_end R.2.2).mpr c)] at k; exact k
  · rw [decide_eq_false (fun z => c ((kd_end R.2.2).mp z))] at k; exact k
theorem s83n {d o a n p c : Nat} {tx : Nat → Int32} {H h : Hp} {K : Int32 → Hp → Prop} (R : TkN H h o a n tx p) (hB : Byt tx) (hc : c < 256) (k0 : ¬ kd tx n p = 300 + c → K 0 h) (k1 : kd tx n p = 300 + c → ∀ h', TkN H h' o a n tx (np tx n p) → K 1 h') : CI (d + 2) 83 [vR 9 (some o), vI (nI c)] h K := by
  have hk := kd_byte (c := c) hB R.2.2 hc
  obtain ⟨⟨q, e⟩, T, hp⟩ := R
  have hnp := np_le (tx := tx) hp
  refine s83 T (fun z => k0 (fun y => z (hk.mp y))) (fun z y => k1 (hk.mpr ⟨z, y⟩) _ ⟨⟨tkS tx n (np tx n p), by rw [e, tokH_tokH]; rfl⟩, tokH_at T.1 hnp, hnp⟩)
/-- the number told, of at most m digits -/
def nmS (tx : Nat → Int32) (n p m : Nat) : Int32 := numS tx (tkS tx n p) m
theorem s82n {d o a n p m : Nat} {tx : Nat → Int32} {H h : Hp} {K : Int32 → Hp → Prop} (R : TkN H h o a n tx p) (hm : m < 2 ^ 30) (k : K (nmS tx n p m) h) : CI (d + 1) 82 [vR 9 (some o), vI (nI m)] h K := s82 R.2.1 hm k
theorem gdB_eq {x y : Int32} (hy : gdB y = y) (h63 : ¬ y = 63) : gdB x = y ↔ x = y := by
  refine ⟨fun e => ?_, fun e => by rw [e, hy]⟩
  unfold gdB at e
  split at e
  · exact e
  · exact absurd e.symm h63
/-- the reference's token is the byte c -/
theorem rt_byte {h : Hp} {o a n p c : Nat} {tx : Nat → Int32} (R : RtAt h o a n tx p) (hB : Byt tx) (hc : c < 256) (hg : gdB (nI c) = nI c) (hn : ¬ nI c = 63 ∧ ¬ nI c = 0 ∧ ¬ nI c = 119 ∧ ¬ nI c = 100) : jI h 11 o 4 = nI c ↔ kd tx n p = 300 + c := by
  have hk := kd_byte (c := c) hB R.2.1 hc
  rw [hk]
  obtain ⟨T, hp, r1, r2, r3, r4, r5, r6⟩ := R
  rcases tkS_3 (tx := tx) hp with h0 | h0 | h0 | h0
  · rw [r3 h0]
    exact ⟨fun e => absurd e.symm hn.2.1, fun e => by omega⟩
  · rw [(r4 h0).1]
    refine ⟨fun e => ?_, fun e => by omega⟩
    split at e
    · exact absurd e.symm hn.2.2.1
    · exact absurd e.symm hn.1
  · rw [(r5 h0).1]
    refine ⟨fun e => ?_, fun e => by omega⟩
    split at e
    · exact absurd e.symm hn.2.2.2
    · exact absurd e.symm hn.1
  · rw [r6 h0, gdB_eq hg hn.1]
    exact ⟨fun e => ⟨h0, e⟩, fun e => e.2⟩
theorem gdB_0 (c : Int32) : ¬ gdB c = 0 := by
  unfold gdB
  intro h
  split at h
  · rename_i z
    subst h
    exact absurd z (by decide)
  · exact absurd h (by decide)
theorem rt_end {h : Hp} {o a n p : Nat} {tx : Nat → Int32} (R : RtAt h o a n tx p) : jI h 11 o 4 = 0 ↔ kd tx n p = 200 := by
  rw [kd_end R.2.1]
  obtain ⟨T, hp, r1, r2, r3, r4, r5, r6⟩ := R
  rcases tkS_3 (tx := tx) hp with h0 | h0 | h0 | h0
  · exact ⟨fun _ => h0, fun _ => r3 h0⟩
  · rw [(r4 h0).1]
    refine ⟨fun e => ?_, fun e => by omega⟩
    split at e
    · exact absurd e (by decide)
    · exact absurd e (by decide)
  · rw [(r5 h0).1]
    refine ⟨fun e => ?_, fun e => by omega⟩
    split at e
    · exact absurd e (by decide)
    · exact absurd e (by decide)
  · rw [r6 h0]
    exact ⟨fun e => absurd e (gdB_0 _), fun e => by omega⟩
