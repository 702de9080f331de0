/-- the class's Tokens stand at a token q = (sort, start, end) -/
def TokAt (h : Hp) (o a n : Nat) (tx : Nat → Int32) (q : Nat × Nat × Nat) : Prop := TokX h o a n tx ∧ jI h 9 o 2 = nI q.1 ∧ jI h 9 o 3 = nI q.2.1 ∧ jI h 9 o 4 = nI q.2.2 ∧ q.2.1 ≤ q.2.2 ∧ q.2.2 ≤ n ∧ q.1 ≤ 3 ∧ (q.1 = 3 → q.2.1 < n)
theorem tkS_ok {tx : Nat → Int32} {n p : Nat} (hp : p ≤ n) : (tkS tx n p).2.1 ≤ (tkS tx n p).2.2 ∧ (tkS tx n p).2.2 ≤ n ∧ (tkS tx n p).1 ≤ 3 ∧ ((tkS tx n p).1 = 3 → (tkS tx n p).2.1 < n) := by
  have h1 := scan_le isBl tx (n - p) p
  have h2 := scan_le (inS 97 122) tx (n - scan isBl tx (n - p) p) (scan isBl tx (n - p) p)
  have h3 := scan_le (inS 48 57) tx (n - scan isBl tx (n - p) p) (scan isBl tx (n - p) p)
  unfold tkS
  split
  · exact ⟨by dsimp only; omega, by dsimp only; omega, by dsimp only; omega, fun z => absurd z (by dsimp only; omega)⟩
  · split
    · exact ⟨by dsimp only; omega, by dsimp only; omega, by dsimp only; omega, fun z => absurd z (by dsimp only; omega)⟩
    · split
      · exact ⟨by dsimp only; omega, by dsimp only; omega, by dsimp only; omega, fun _ => by dsimp only; omega⟩
      · exact ⟨by dsimp only; omega, by dsimp only; omega, by dsimp only; omega, fun z => absurd z (by dsimp only; omega)⟩
theorem tokH_at {h : Hp} {o a n p : Nat} {tx : Nat → Int32} (T : TokX h o a n tx) (hp : p ≤ n) : TokAt (tokH h o (tkS tx n p)) o a n tx (tkS tx n p) := by
  have hk := tkS_ok (tx := tx) hp
  refine ⟨((T.wI (by decide)).wI (by decide)).wI (by decide), jI_same _ _ _ _ _, ?_, ?_, hk.1, hk.2.1, hk.2.2.1, hk.2.2.2⟩
  · show jI (wI (wI (wI h 9 o 3 _) 9 o 4 _) 9 o 2 _) 9 o 3 = _
    rw [jI_k (by decide), jI_k (by decide)]; exact jI_same _ _ _ _ _
  · show jI (wI (wI (wI h 9 o 3 _) 9 o 4 _) 9 o 2 _) 9 o 4 = _
    rw [jI_k (by decide)]; exact jI_same _ _ _ _ _
/-- the number of the word at token q in list b -/
def amS (tx : Nat → Int32) (q : Nat × Nat × Nat) (b : Nat) : Int32 := if q.1 = 1 then mR (amG tx q.2.1 (q.2.2 - q.2.1) (romB b) 0 (some 0)) else -1
theorem s81a {d o a n b : Nat} {tx : Nat → Int32} {q : Nat × Nat × Nat} {h : Hp} {K : Int32 → Hp → Prop} (T : TokAt h o a n tx q) (hb : (romB b).length < 2 ^ 20) (k : K (amS tx q b) h) : CI (d + 3) 81 [vR 9 (some o), vR 40 (some b)] h K := by
  obtain ⟨t1, t2, t3, t4, t5, t6, t7, -⟩ := T
  unfold amS at k
  refine s81 t1 t3 t4 t5 t6 hb (fun c => ?_) (fun c => ?_)
  · rw [t2] at c
    have : q.1 = 1 := (nI_eq (a := q.1) (b := 1) (by omega) (by omega)).mp c
    rw [if_pos this] at k; exact k
  · rw [t2] at c
    have : ¬ q.1 = 1 := fun z => c (by rw [z]; rfl)
    rw [if_neg this] at k; exact k
/-- Tokens.take(list) -/
theorem s80 {d o a n b : Nat} {tx : Nat → Int32} {q : Nat × Nat × Nat} {h : Hp} {K : Int32 → Hp → Prop} (T : TokAt h o a n tx q) (hb : (romB b).length < 2 ^ 20) (k1 : amS tx q b = -1 → K (-1) h) (k2 : ¬ amS tx q b = -1 → K (amS tx q b) (tokH h o (tkS tx n q.2.2))) : CI (d + 4) 80 [vR 9 (some o), vR 40 (some b)] h K := by
  intro P hP
  refine v80 hP o (some b) h (s81a T hb ⟨fun c => ⟨_, rfl, ?_⟩, fun c => s77 (d := d + 2) T.1 T.2.2.2.1 T.2.2.2.2.2.1 ⟨_, rfl, k2 c⟩⟩)
  rw [c]; exact k1 c
/-- Tokens.takeWord(list) -/
theorem s79 {d o a n b : Nat} {tx : Nat → Int32} {q : Nat × Nat × Nat} {h : Hp} {K : Int32 → Hp → Prop} (T : TokAt h o a n tx q) (hb : (romB b).length < 2 ^ 20) (k1 : amS tx q b = -1 → K 0 h) (k2 : ¬ amS tx q b = -1 → K 1 (tokH h o (tkS tx n q.2.2))) : CI (d + 5) 79 [vR 9 (some o), vR 40 (some b)] h K := by
  intro P hP
  refine v79 hP o (some b) h (s80 T hb (fun c => ⟨fun _ => ⟨_, rfl, k1 c⟩, fun z => absurd rfl z⟩) (fun c => ⟨fun z => absurd z c, fun _ => ⟨_, rfl, k2 c⟩⟩))
/-- Tokens.atEnd() -/
theorem s78 {d o a n : Nat} {tx : Nat → Int32} {q : Nat × Nat × Nat} {h : Hp} {K : Int32 → Hp → Prop} (T : TokAt h o a n tx q) (k1 : q.1 = 0 → K 1 h) (k2 : ¬ q.1 = 0 → K 0 h) : CI (d + 1) 78 [vR 9 (some o)] h K := by
  intro P hP
  obtain ⟨t1, t2, t3, t4, t5, t6, t7, -⟩ := T
  refine v78 hP o h ⟨fun c => ⟨_, rfl, k2 (fun z => c (by rw [t2, z]; rfl))⟩, fun c => ⟨_, rfl, k1 ?_⟩⟩
  have c2 := Classical.not_not.mp c
  rw [t2] at c2
  exact (nI_eq (a := q.1) (b := 0) (by omega) (by omega)).mp c2
