/-! middles of charges -/
theorem cv {K : Int32 → Hp → Prop} {a b : Int32} {h : Hp} (e : a = b) (k : K a h) : K b h := e ▸ k
theorem s199 {d m i : Nat} {h : Hp} {K : Int32 → Hp → Prop} (h1 : 1 ≤ m) (h6 : m ≤ 6) (hi : i < m) (kk : K ((romI 1).getD (m * (m - 1) / 2 + i) 0) h) : CI (d + 1) 199 [vI (nI m), vI (nI i)] h K := by
  intro P hP
  have hc : m = 1 ∨ m = 2 ∨ m = 3 ∨ m = 4 ∨ m = 5 ∨ m = 6 := by omega
  rcases hc with rfl | rfl | rfl | rfl | rfl | rfl
  · have hi2 : i = 0 := by omega
    subst hi2
    exact v199 hP (nI 1) (nI 0) h ⟨fun z => absurd z (by decide), fun _ => ⟨_, rfl, cv (by decide +kernel) kk⟩⟩
  · have hi2 : i = 0 ∨ i = 1 := by omega
    rcases hi2 with rfl | rfl
    · exact v199 hP (nI 2) (nI 0) h ⟨fun _ => ⟨fun z => absurd z (by decide), fun _ => ⟨fun z => absurd z (by decide), fun _ => ⟨_, rfl, cv (by decide +kernel) kk⟩⟩⟩, fun z => absurd (by decide) z⟩
    · exact v199 hP (nI 2) (nI 1) h ⟨fun _ => ⟨fun z => absurd z (by decide), fun _ => ⟨fun _ => ⟨_, rfl, cv (by decide +kernel) kk⟩, fun z => absurd (by decide) z⟩⟩, fun z => absurd (by decide) z⟩
  · have hi2 : i = 0 ∨ i = 1 ∨ i = 2 := by omega
    rcases hi2 with rfl | rfl | rfl
    · exact v199 hP (nI 3) (nI 0) h ⟨fun _ => ⟨fun _ => ⟨fun z => absurd z (by decide), fun _ => ⟨fun _ => ⟨fun z => absurd z (by decide), fun _ => ⟨_, rfl, cv (by decide +kernel) kk⟩⟩, fun z => absurd (by decide) z⟩⟩, fun z => absurd (by decide) z⟩, fun z => absurd (by decide) z⟩
    · exact v199 hP (nI 3) (nI 1) h ⟨fun _ => ⟨fun _ => ⟨fun z => absurd z (by decide), fun _ => ⟨fun _ => ⟨fun _ => ⟨_, rfl, cv (by decide +kernel) kk⟩, fun z => absurd (by decide) z⟩, fun z => absurd (by decide) z⟩⟩, fun z => absurd (by decide) z⟩, fun z => absurd (by decide) z⟩
    · exact v199 hP (nI 3) (nI 2) h ⟨fun _ => ⟨fun _ => ⟨fun z => absurd z (by decide), fun _ => ⟨fun z => absurd z (by decide), fun _ => ⟨_, rfl, cv (by decide +kernel) kk⟩⟩⟩, fun z => absurd (by decide) z⟩, fun z => absurd (by decide) z⟩
  · have hi2 : i = 0 ∨ i = 1 ∨ i = 2 ∨ i = 3 := by omega
    rcases hi2 with rfl | rfl | rfl | rfl
    · exact v199 hP (nI 4) (nI 0) h ⟨fun _ => ⟨fun _ => ⟨fun _ => ⟨fun z => absurd z (by decide), fun _ => ⟨fun _ => ⟨fun z => absurd z (by decide), fun _ => ⟨_, rfl, cv (by decide +kernel) kk⟩⟩, fun z => absurd (by decide) z⟩⟩, fun z => absurd (by decide) z⟩, fun z => absurd (by decide) z⟩, fun z => absurd (by decide) z⟩
    · exact v199 hP (nI 4) (nI 1) h ⟨fun _ => ⟨fun _ => ⟨fun _ => ⟨fun z => absurd z (by decide), fun _ => ⟨fun _ => ⟨fun _ => ⟨_, rfl, cv (by decide +kernel) kk⟩, fun z => absurd (by decide) z⟩, fun z => absurd (by decide) z⟩⟩, fun z => absurd (by decide) z⟩, fun z => absurd (by decide) z⟩, fun z => absurd (by decide) z⟩
    · exact v199 hP (nI 4) (nI 2) h ⟨fun _ => ⟨fun _ => ⟨fun _ => ⟨fun z => absurd z (by decide), fun _ => ⟨fun _ => ⟨fun z => absurd z (by decide), fun _ => ⟨_, rfl, cv (by decide +kernel) kk⟩⟩, fun z => absurd (by decide) z⟩⟩, fun z => absurd (by decide) z⟩, fun z => absurd (by decide) z⟩, fun z => absurd (by decide) z⟩
    · exact v199 hP (nI 4) (nI 3) h ⟨fun _ => ⟨fun _ => ⟨fun _ => ⟨fun z => absurd z (by decide), fun _ => ⟨fun _ => ⟨fun _ => ⟨_, rfl, cv (by decide +kernel) kk⟩, fun z => absurd (by decide) z⟩, fun z => absurd (by decide) z⟩⟩, fun z => absurd (by decide) z⟩, fun z => absurd (by decide) z⟩, fun z => absurd (by decide) z⟩
  · have hi2 : i = 0 ∨ i = 1 ∨ i = 2 ∨ i = 3 ∨ i = 4 := by omega
    rcases hi2 with rfl | rfl | rfl | rfl | rfl
    · exact v199 hP (nI 5) (nI 0) h ⟨fun _ => ⟨fun _ => ⟨fun _ => ⟨fun z => absurd z (by decide), fun _ => ⟨fun _ => ⟨fun z => absurd z (by decide), fun _ => ⟨_, rfl, cv (by decide +kernel) kk⟩⟩, fun z => absurd (by decide) z⟩⟩, fun z => absurd (by decide) z⟩, fun z => absurd (by decide) z⟩, fun z => absurd (by decide) z⟩
    · exact v199 hP (nI 5) (nI 1) h ⟨fun _ => ⟨fun _ => ⟨fun _ => ⟨fun z => absurd z (by decide), fun _ => ⟨fun _ => ⟨fun _ => ⟨_, rfl, cv (by decide +kernel) kk⟩, fun z => absurd (by decide) z⟩, fun z => absurd (by decide) z⟩⟩, fun z => absurd (by decide) z⟩, fun z => absurd (by decide) z⟩, fun z => absurd (by decide) z⟩
    · exact v199 hP (nI 5) (nI 2) h ⟨fun _ => ⟨fun _ => ⟨fun _ => ⟨fun z => absurd z (by decide), fun _ => ⟨fun _ => ⟨fun z => absurd z (by decide), fun _ => ⟨_, rfl, cv (by decide +kernel) kk⟩⟩, fun z => absurd (by decide) z⟩⟩, fun z => absurd (by decide) z⟩, fun z => absurd (by decide) z⟩, fun z => absurd (by decide) z⟩
    · exact v199 hP (nI 5) (nI 3) h ⟨fun _ => ⟨fun _ => ⟨fun _ => ⟨fun z => absurd z (by decide), fun _ => ⟨fun _ => ⟨fun _ => ⟨_, rfl, cv (by decide +kernel) kk⟩, fun z => absurd (by decide) z⟩, fun z => absurd (by decide) z⟩⟩, fun z => absurd (by decide) z⟩, fun z => absurd (by decide) z⟩, fun z => absurd (by decide) z⟩
    · exact v199 hP (nI 5) (nI 4) h ⟨fun _ => ⟨fun _ => ⟨fun _ => ⟨fun z => absurd z (by decide), fun _ => ⟨fun z => absurd z (by decide), fun _ => ⟨_, rfl, cv (by decide +kernel) kk⟩⟩⟩, fun z => absurd (by decide) z⟩, fun z => absurd (by decide) z⟩, fun z => absurd (by decide) z⟩
  · have hi2 : i = 0 ∨ i = 1 ∨ i = 2 ∨ i = 3 ∨ i = 4 ∨ i = 5 := by omega
    rcases hi2 with rfl | rfl | rfl | rfl | rfl | rfl
    · exact v199 hP (nI 6) (nI 0) h ⟨fun _ => ⟨fun _ => ⟨fun _ => ⟨fun _ => ⟨fun z => absurd z (by decide), fun _ => ⟨_, rfl, cv (by decide +kernel) kk⟩⟩, fun z => absurd (by decide) z⟩, fun z => absurd (by decide) z⟩, fun z => absurd (by decide) z⟩, fun z => absurd (by decide) z⟩
    · exact v199 hP (nI 6) (nI 1) h ⟨fun _ => ⟨fun _ => ⟨fun _ => ⟨fun _ => ⟨fun z => absurd z (by decide), fun _ => ⟨_, rfl, cv (by decide +kernel) kk⟩⟩, fun z => absurd (by decide) z⟩, fun z => absurd (by decide) z⟩, fun z => absurd (by decide) z⟩, fun z => absurd (by decide) z⟩
    · exact v199 hP (nI 6) (nI 2) h ⟨fun _ => ⟨fun _ => ⟨fun _ => ⟨fun _ => ⟨fun z => absurd z (by decide), fun _ => ⟨_, rfl, cv (by decide +kernel) kk⟩⟩, fun z => absurd (by decide) z⟩, fun z => absurd (by decide) z⟩, fun z => absurd (by decide) z⟩, fun z => absurd (by decide) z⟩
    · exact v199 hP (nI 6) (nI 3) h ⟨fun _ => ⟨fun _ => ⟨fun _ => ⟨fun _ => ⟨fun _ => ⟨fun _ => ⟨_, rfl, cv (by decide +kernel) kk⟩, fun z => absurd (by decide) z⟩, fun z => absurd (by decide) z⟩, fun z => absurd (by decide) z⟩, fun z => absurd (by decide) z⟩, fun z => absurd (by decide) z⟩, fun z => absurd (by decide) z⟩
    · exact v199 hP (nI 6) (nI 4) h ⟨fun _ => ⟨fun _ => ⟨fun _ => ⟨fun _ => ⟨fun _ => ⟨fun _ => ⟨_, rfl, cv (by decide +kernel) kk⟩, fun z => absurd (by decide) z⟩, fun z => absurd (by decide) z⟩, fun z => absurd (by decide) z⟩, fun z => absurd (by decide) z⟩, fun z => absurd (by decide) z⟩, fun z => absurd (by decide) z⟩
    · exact v199 hP (nI 6) (nI 5) h ⟨fun _ => ⟨fun _ => ⟨fun _ => ⟨fun _ => ⟨fun _ => ⟨fun z => absurd z (by decide), fun _ => ⟨_, rfl, cv (by decide +kernel) kk⟩⟩, fun z => absurd (by decide) z⟩, fun z => absurd (by decide) z⟩, fun z => absurd (by decide) z⟩, fun z => absurd (by decide) z⟩, fun z => absurd (by decide) z⟩
theorem s200 {d m i : Nat} {h : Hp} {K : Int32 → Hp → Prop} (h1 : 1 ≤ m) (h6 : m ≤ 6) (hi : i < m) (kk : K ((romI 2).getD (m * (m - 1) / 2 + i) 0) h) : CI (d + 1) 200 [vI (nI m), vI (nI i)] h K := by
  intro P hP
  have hc : m = 1 ∨ m = 2 ∨ m = 3 ∨ m = 4 ∨ m = 5 ∨ m = 6 := by omega
  rcases hc with rfl | rfl | rfl | rfl | rfl | rfl
  · have hi2 : i = 0 := by omega
    subst hi2
    exact v200 hP (nI 1) (nI 0) h ⟨fun z => absurd z (by decide), fun _ => ⟨_, rfl, cv (by decide +kernel) kk⟩⟩
  · have hi2 : i = 0 ∨ i = 1 := by omega
    rcases hi2 with rfl | rfl
    · exact v200 hP (nI 2) (nI 0) h ⟨fun z => absurd z (by decide), fun _ => ⟨_, rfl, cv (by decide +kernel) kk⟩⟩
    · exact v200 hP (nI 2) (nI 1) h ⟨fun z => absurd z (by decide), fun _ => ⟨_, rfl, cv (by decide +kernel) kk⟩⟩
  · have hi2 : i = 0 ∨ i = 1 ∨ i = 2 := by omega
    rcases hi2 with rfl | rfl | rfl
    · exact v200 hP (nI 3) (nI 0) h ⟨fun _ => ⟨fun z => absurd z (by decide), fun _ => ⟨fun _ => ⟨_, rfl, cv (by decide +kernel) kk⟩, fun z => absurd (by decide) z⟩⟩, fun z => absurd (by decide) z⟩
    · exact v200 hP (nI 3) (nI 1) h ⟨fun _ => ⟨fun z => absurd z (by decide), fun _ => ⟨fun _ => ⟨_, rfl, cv (by decide +kernel) kk⟩, fun z => absurd (by decide) z⟩⟩, fun z => absurd (by decide) z⟩
    · exact v200 hP (nI 3) (nI 2) h ⟨fun _ => ⟨fun z => absurd z (by decide), fun _ => ⟨fun z => absurd z (by decide), fun _ => ⟨_, rfl, cv (by decide +kernel) kk⟩⟩⟩, fun z => absurd (by decide) z⟩
  · have hi2 : i = 0 ∨ i = 1 ∨ i = 2 ∨ i = 3 := by omega
    rcases hi2 with rfl | rfl | rfl | rfl
    · exact v200 hP (nI 4) (nI 0) h ⟨fun _ => ⟨fun _ => ⟨fun z => absurd z (by decide), fun _ => ⟨fun _ => ⟨fun z => absurd z (by decide), fun _ => ⟨_, rfl, cv (by decide +kernel) kk⟩⟩, fun z => absurd (by decide) z⟩⟩, fun z => absurd (by decide) z⟩, fun z => absurd (by decide) z⟩
    · exact v200 hP (nI 4) (nI 1) h ⟨fun _ => ⟨fun _ => ⟨fun z => absurd z (by decide), fun _ => ⟨fun _ => ⟨fun z => absurd z (by decide), fun _ => ⟨_, rfl, cv (by decide +kernel) kk⟩⟩, fun z => absurd (by decide) z⟩⟩, fun z => absurd (by decide) z⟩, fun z => absurd (by decide) z⟩
    · exact v200 hP (nI 4) (nI 2) h ⟨fun _ => ⟨fun _ => ⟨fun z => absurd z (by decide), fun _ => ⟨fun _ => ⟨fun _ => ⟨_, rfl, cv (by decide +kernel) kk⟩, fun z => absurd (by decide) z⟩, fun z => absurd (by decide) z⟩⟩, fun z => absurd (by decide) z⟩, fun z => absurd (by decide) z⟩
    · exact v200 hP (nI 4) (nI 3) h ⟨fun _ => ⟨fun _ => ⟨fun z => absurd z (by decide), fun _ => ⟨fun _ => ⟨fun _ => ⟨_, rfl, cv (by decide +kernel) kk⟩, fun z => absurd (by decide) z⟩, fun z => absurd (by decide) z⟩⟩, fun z => absurd (by decide) z⟩, fun z => absurd (by decide) z⟩
  · have hi2 : i = 0 ∨ i = 1 ∨ i = 2 ∨ i = 3 ∨ i = 4 := by omega
    rcases hi2 with rfl | rfl | rfl | rfl | rfl
    · exact v200 hP (nI 5) (nI 0) h ⟨fun _ => ⟨fun _ => ⟨fun z => absurd z (by decide), fun _ => ⟨fun _ => ⟨fun z => absurd z (by decide), fun _ => ⟨_, rfl, cv (by decide +kernel) kk⟩⟩, fun z => absurd (by decide) z⟩⟩, fun z => absurd (by decide) z⟩, fun z => absurd (by decide) z⟩
    · exact v200 hP (nI 5) (nI 1) h ⟨fun _ => ⟨fun _ => ⟨fun z => absurd z (by decide), fun _ => ⟨fun _ => ⟨fun z => absurd z (by decide), fun _ => ⟨_, rfl, cv (by decide +kernel) kk⟩⟩, fun z => absurd (by decide) z⟩⟩, fun z => absurd (by decide) z⟩, fun z => absurd (by decide) z⟩
    · exact v200 hP (nI 5) (nI 2) h ⟨fun _ => ⟨fun _ => ⟨fun z => absurd z (by decide), fun _ => ⟨fun _ => ⟨fun _ => ⟨_, rfl, cv (by decide +kernel) kk⟩, fun z => absurd (by decide) z⟩, fun z => absurd (by decide) z⟩⟩, fun z => absurd (by decide) z⟩, fun z => absurd (by decide) z⟩
    · exact v200 hP (nI 5) (nI 3) h ⟨fun _ => ⟨fun _ => ⟨fun z => absurd z (by decide), fun _ => ⟨fun _ => ⟨fun _ => ⟨_, rfl, cv (by decide +kernel) kk⟩, fun z => absurd (by decide) z⟩, fun z => absurd (by decide) z⟩⟩, fun z => absurd (by decide) z⟩, fun z => absurd (by decide) z⟩
    · exact v200 hP (nI 5) (nI 4) h ⟨fun _ => ⟨fun _ => ⟨fun z => absurd z (by decide), fun _ => ⟨fun z => absurd z (by decide), fun _ => ⟨_, rfl, cv (by decide +kernel) kk⟩⟩⟩, fun z => absurd (by decide) z⟩, fun z => absurd (by decide) z⟩
  · have hi2 : i = 0 ∨ i = 1 ∨ i = 2 ∨ i = 3 ∨ i = 4 ∨ i = 5 := by omega
    rcases hi2 with rfl | rfl | rfl | rfl | rfl | rfl
    · exact v200 hP (nI 6) (nI 0) h ⟨fun _ => ⟨fun _ => ⟨fun _ => ⟨fun z => absurd z (by decide), fun _ => ⟨_, rfl, cv (by decide +kernel) kk⟩⟩, fun z => absurd (by decide) z⟩, fun z => absurd (by decide) z⟩, fun z => absurd (by decide) z⟩
    · exact v200 hP (nI 6) (nI 1) h ⟨fun _ => ⟨fun _ => ⟨fun _ => ⟨fun z => absurd z (by decide), fun _ => ⟨_, rfl, cv (by decide +kernel) kk⟩⟩, fun z => absurd (by decide) z⟩, fun z => absurd (by decide) z⟩, fun z => absurd (by decide) z⟩
    · exact v200 hP (nI 6) (nI 2) h ⟨fun _ => ⟨fun _ => ⟨fun _ => ⟨fun z => absurd z (by decide), fun _ => ⟨_, rfl, cv (by decide +kernel) kk⟩⟩, fun z => absurd (by decide) z⟩, fun z => absurd (by decide) z⟩, fun z => absurd (by decide) z⟩
    · exact v200 hP (nI 6) (nI 3) h ⟨fun _ => ⟨fun _ => ⟨fun _ => ⟨fun _ => ⟨fun _ => ⟨_, rfl, cv (by decide +kernel) kk⟩, fun z => absurd (by decide) z⟩, fun z => absurd (by decide) z⟩, fun z => absurd (by decide) z⟩, fun z => absurd (by decide) z⟩, fun z => absurd (by decide) z⟩
    · exact v200 hP (nI 6) (nI 4) h ⟨fun _ => ⟨fun _ => ⟨fun _ => ⟨fun _ => ⟨fun _ => ⟨_, rfl, cv (by decide +kernel) kk⟩, fun z => absurd (by decide) z⟩, fun z => absurd (by decide) z⟩, fun z => absurd (by decide) z⟩, fun z => absurd (by decide) z⟩, fun z => absurd (by decide) z⟩
    · exact v200 hP (nI 6) (nI 5) h ⟨fun _ => ⟨fun _ => ⟨fun _ => ⟨fun _ => ⟨fun z => absurd z (by decide), fun _ => ⟨_, rfl, cv (by decide +kernel) kk⟩⟩, fun z => absurd (by decide) z⟩, fun z => absurd (by decide) z⟩, fun z => absurd (by decide) z⟩, fun z => absurd (by decide) z⟩
theorem romI_len1 : (romI 1).length = 21 ∧ (romI 2).length = 21 := by decide +kernel
/-- the side, the middle of charge i of m at place pl -/
def sidS (pl m : Nat) : Nat := if pl = 6 then 8 else if m = 1 then 16 else if 3 < m then 10 else 12
def muS (pl m i : Nat) : Int32 := if pl = 2 then (romI 1).getD (m * (m - 1) / 2 + i) 0 else (((2 * nI i) - (nI m - 1)) * (nI (sidS pl m) + 2))
def mvS (pl m i : Nat) : Int32 := if pl = 2 then (romI 2).getD (m * (m - 1) / 2 + i) 0 else if pl = 4 then -49 else if pl = 6 then -30 else 0
theorem tri_e {m i : Nat} (h1 : 1 ≤ m) (h6 : m ≤ 6) (hi : i < m) : nI m * (nI m - 1) / 2 + nI i = nI (m * (m - 1) / 2 + i) ∧ m * (m - 1) / 2 + i < 21 := by
  have hc : m = 1 ∨ m = 2 ∨ m = 3 ∨ m = 4 ∨ m = 5 ∨ m = 6 := by omega
  have e1 : nI m - 1 = nI (m - 1) := pk_sub (b := 1) h1
  have hm : m * (m - 1) ≤ 30 := by rcases hc with rfl | rfl | rfl | rfl | rfl | rfl <;> decide
  have e2 : nI (m * (m - 1)) / 2 = nI (m * (m - 1) / 2) := pk_div (d := 2) (by omega) (by decide) (by decide)
  rw [e1, pk_mul, e2, nI_add]
  refine ⟨rfl, ?_⟩
  rcases hc with rfl | rfl | rfl | rfl | rfl | rfl <;> omega
theorem s218 {d pt da pl m : Nat} {r : Nat → Int32} {h : Hp} {K : Int32 → Hp → Prop} (Q : PtOK h pt da pl r) (em : r 2 = nI m) (hm : m < 2 ^ 20) (hpl : pl < 7) (kk : K (nI (sidS pl m)) h) : CI (d + 1) 218 [vR 3 (some pt)] h K := by
  intro P hP
  have e0 := Q.1
  have e2 : jI h 3 pt 2 = nI m := Q.2.2.1.trans em
  unfold sidS at kk
  refine v218 hP (some pt) h (dr_of rfl ⟨fun c => dr_of rfl ⟨fun c2 => dr_of rfl ⟨fun c3 => ⟨_, rfl, ?_⟩, fun c3 => ⟨_, rfl, ?_⟩⟩, fun c2 => ⟨_, rfl, ?_⟩⟩, fun c => ⟨_, rfl, ?_⟩⟩)
  · have c : ¬ pl = 6 := fun z => c (by rw [e0, z]; rfl)
    have c2 : ¬ m = 1 := fun z => c2 (by rw [e2, z]; rfl)
    have c3 : 3 < m := by rw [e2] at c3; exact (nI_ltI (a := 3) (by omega) (by omega)).mp c3
    rw [if_neg c, if_neg c2, if_pos c3] at kk; exact kk
  · have c : ¬ pl = 6 := fun z => c (by rw [e0, z]; rfl)
    have c2 : ¬ m = 1 := fun z => c2 (by rw [e2, z]; rfl)
    have c3 : ¬ 3 < m := fun z => c3 (by rw [e2]; exact nI_lt (a := 3) z (by omega))
    rw [if_neg c, if_neg c2, if_neg c3] at kk; exact kk
  · have c : ¬ pl = 6 := fun z => c (by rw [e0, z]; rfl)
    have c2 : m = 1 := by
      have z := Classical.not_not.mp c2
      rw [e2] at z
      exact (nI_eq (a := m) (b := 1) (by omega) (by decide)).mp z
    rw [if_neg c, if_pos c2] at kk; exact kk
  · have c : pl = 6 := by
      have z := Classical.not_not.mp c
      rw [e0] at z
      exact (nI_eq (a := pl) (b := 6) (by omega) (by decide)).mp z
    rw [if_pos c] at kk; exact kk
theorem s219 {d pt da pl m i : Nat} {r : Nat → Int32} {h : Hp} {K : Int32 → Hp → Prop} (Q : PtOK h pt da pl r) (em : r 2 = nI m) (h1 : 1 ≤ m) (h6 : m ≤ 6) (hi : i < m) (hpl : pl < 7) (kk : K (muS pl m i) h) : CI (d + 2) 219 [vR 3 (some pt), vI (nI (sidS pl m)), vI (nI i)] h K := by
  intro P hP
  have e0 := Q.1
  have e2 : jI h 3 pt 2 = nI m := Q.2.2.1.trans em
  unfold muS at kk
  obtain ⟨t1, t2⟩ := tri_e h1 h6 hi
  refine v219 hP (some pt) _ (nI i) h (dr_of rfl ⟨fun c => dr_of rfl ⟨_, rfl, ?_⟩, fun c => dr_of rfl (dr_of rfl ?_)⟩)
  · have c : ¬ pl = 2 := fun z => c (by rw [e0, z]; rfl)
    rw [if_neg c] at kk
    rw [e2]; exact kk
  · have c : pl = 2 := by
      have z := Classical.not_not.mp c
      rw [e0] at z
      exact (nI_eq (a := pl) (b := 2) (by omega) (by decide)).mp z
    rw [if_pos c] at kk
    rw [e2, t1]
    exact s101r (by rw [romI_len1.1]; decide) (by rw [romI_len1.1]; exact t2) ⟨_, rfl, kk⟩
theorem s220 {d pt da pl m i : Nat} {r : Nat → Int32} {h : Hp} {K : Int32 → Hp → Prop} (Q : PtOK h pt da pl r) (em : r 2 = nI m) (h1 : 1 ≤ m) (h6 : m ≤ 6) (hi : i < m) (hpl : pl < 7) (kk : K (mvS pl m i) h) : CI (d + 2) 220 [vR 3 (some pt), vI (nI i)] h K := by
  intro P hP
  have e0 := Q.1
  have e2 : jI h 3 pt 2 = nI m := Q.2.2.1.trans em
  obtain ⟨t1, t2⟩ := tri_e h1 h6 hi
  refine v220 hP (some pt) (nI i) h (dr_of rfl ?_)
  rw [e0]
  have hc : pl = 0 ∨ pl = 1 ∨ pl = 2 ∨ pl = 3 ∨ pl = 4 ∨ pl = 5 ∨ pl = 6 := by omega
  rcases hc with rfl | rfl | rfl | rfl | rfl | rfl | rfl
  · exact ⟨fun z => absurd z (by decide), fun _ => ⟨fun z => absurd z (by decide), fun _ => ⟨fun z => absurd z (by decide), fun _ => ⟨fun z => absurd z (by decide), fun _ => ⟨fun z => absurd z (by decide), fun _ => ⟨_, rfl, kk⟩⟩⟩⟩⟩⟩
  · exact ⟨fun z => absurd z (by decide), fun _ => ⟨fun z => absurd z (by decide), fun _ => ⟨fun z => absurd z (by decide), fun _ => ⟨fun z => absurd z (by decide), fun _ => ⟨fun z => absurd z (by decide), fun _ => ⟨_, rfl, kk⟩⟩⟩⟩⟩⟩
  · refine ⟨fun _ => dr_of rfl (dr_of rfl ?_), fun z => absurd rfl z⟩
    rw [e2, t1]
    exact s101r (by rw [romI_len1.2]; decide) (by rw [romI_len1.2]; exact t2) ⟨_, rfl, kk⟩
  · exact ⟨fun z => absurd z (by decide), fun _ => ⟨fun _ => ⟨_, rfl, kk⟩, fun z => absurd rfl z⟩⟩
  · exact ⟨fun z => absurd z (by decide), fun _ => ⟨fun z => absurd z (by decide), fun _ => ⟨fun _ => ⟨_, rfl, kk⟩, fun z => absurd rfl z⟩⟩⟩
  · exact ⟨fun z => absurd z (by decide), fun _ => ⟨fun z => absurd z (by decide), fun _ => ⟨fun z => absurd z (by decide), fun _ => ⟨fun _ => ⟨_, rfl, kk⟩, fun z => absurd rfl z⟩⟩⟩⟩
  · exact ⟨fun z => absurd z (by decide), fun _ => ⟨fun z => absurd z (by decide), fun _ => ⟨fun z => absurd z (by decide), fun _ => ⟨fun z => absurd z (by decide), fun _ => ⟨fun _ => ⟨_, rfl, kk⟩, fun z => absurd rfl z⟩⟩⟩⟩⟩
/-- charges cover a point, from the i-th on, over q -/
def covS (pl k m : Nat) (u v : Int32) : Nat → Nat → Bool
  | _, 0 => false
  | i, q + 1 => chgC k (nI (sidS pl m)) (u - muS pl m i) (v - mvS pl m i) || covS pl k m u v (i + 1) q
theorem c217 {d pt da pl m k : Nat} {r : Nat → Int32} {u v : Int32} {h : Hp} {K : Int32 → Hp → Prop} {P : Nat → List AV → List AV → Hp → Prop} (hP : Cl (Call (d + 3)) 217 (fun v h' => ∃ x, v = some (vI x) ∧ K x h') P) (Q : PtOK h pt da pl r) (em : r 2 = nI m) (ek : r 0 = nI k) (h1 : 1 ≤ m) (h6 : m ≤ 6) (k16 : 16 ≤ k) (k30 : k ≤ 30) (hpl : pl < 7) : ∀ q i, i + q = m → K (bi (covS pl k m u v i q)) h → P 8 [vR 3 (some pt), vI u, vI v, vI (nI (sidS pl m)), vI (nI i)] [] h
  | 0, i, hq, kk => by
    have e2 : jI h 3 pt 2 = nI m := Q.2.2.1.trans em
    refine v217_8 hP (some pt) u v _ (nI i) h (dr_of rfl ⟨fun _ => ⟨_, rfl, kk⟩, fun c => absurd ?_ c⟩)
    rw [e2]; exact nI_le (by omega) (by omega)
  | q + 1, i, hq, kk => by
    have e2 : jI h 3 pt 2 = nI m := Q.2.2.1.trans em
    have e1 : jI h 3 pt 1 = nI k := Q.2.1.trans ek
    have kk : K (bi (chgC k (nI (sidS pl m)) (u - muS pl m i) (v - mvS pl m i) || covS pl k m u v (i + 1) q)) h := kk
    refine v217_8 hP (some pt) u v _ (nI i) h (dr_of rfl ⟨fun c => absurd (by rw [e2] at c; exact c) (nI_ge (by omega) (by omega)), fun _ => dr_of rfl (s219 Q em h1 h6 (by omega) hpl (s220 Q em h1 h6 (by omega) hpl ?_))⟩)
    rw [e1]
    refine s221 k16 k30 ⟨fun c => ?_, fun c => ⟨_, rfl, ?_⟩⟩
    · rw [bo0.mp c, Bool.false_or] at kk
      rw [nI_1]
      exact c217 hP Q em ek h1 h6 k16 k30 hpl q (i + 1) (by omega) kk
    · rw [bo1.mp c, Bool.true_or] at kk
      exact kk
theorem s217 {d pt da pl m k : Nat} {r : Nat → Int32} {u v : Int32} {h : Hp} {K : Int32 → Hp → Prop} (Q : PtOK h pt da pl r) (em : r 2 = nI m) (ek : r 0 = nI k) (h1 : 1 ≤ m) (h6 : m ≤ 6) (k16 : 16 ≤ k) (k30 : k ≤ 30) (hpl : pl < 7) (kk : K (bi (covS pl k m u v 0 m)) h) : CI (d + 4) 217 [vR 3 (some pt), vI u, vI v] h K := fun P hP => v217 hP (some pt) u v h (s218 Q em (by omega) hpl (c217 (i := 0) hP Q em ek h1 h6 k16 k30 hpl m (by omega) kk))
/-- a bordure -/
def borC (x y : Int32) : Bool := !insS (x - 5) y || (!insS (x + 5) y || (!insS x (y - 5) || !insS x (y + 5)))
/-- the part at place pl covers the point -/
def cvrS (pl k m : Nat) (x y : Int32) : Bool := if pl = 0 then ordS k ((2 * x) - 59) ((2 * y) - 71) else if pl = 3 then !decide (22 ≤ y) else if pl = 5 then borC x y else covS pl k m ((2 * x) - 59) ((2 * y) - 71) 0 m
theorem s215 {d pt da pl m k : Nat} {r : Nat → Int32} {x y : Int32} {h : Hp} {K : Int32 → Hp → Prop} (Q : PtOK h pt da pl r) (em : r 2 = nI m) (ek : r 0 = nI k) (h1 : 1 ≤ m) (h6 : m ≤ 6) (hpl : pl < 7) (hk : (pl = 0 ∧ 8 ≤ k ∧ k ≤ 14) ∨ pl = 3 ∨ pl = 5 ∨ (¬ pl = 0 ∧ 16 ≤ k ∧ k ≤ 30)) (kk : K (bi (cvrS pl k m x y)) h) : CI (d + 5) 215 [vR 3 (some pt), vI x, vI y] h K := by
  intro P hP
  have e0 := Q.1
  have e1 : jI h 3 pt 1 = nI k := Q.2.1.trans ek
  refine v215 hP (some pt) x y h (dr_of rfl ?_)
  rw [e0]
  have hc : pl = 0 ∨ pl = 1 ∨ pl = 2 ∨ pl = 3 ∨ pl = 4 ∨ pl = 5 ∨ pl = 6 := by omega
  rcases hc with rfl | rfl | rfl | rfl | rfl | rfl | rfl
  · exact ⟨fun _ => dr_of rfl (by rw [e1]; exact s216 (by omega) (by omega) ⟨nar _, _, rfl, kk⟩), fun z => absurd rfl z⟩
  · exact ⟨fun z => absurd z (by decide), fun _ => ⟨fun z => absurd z (by decide), fun _ => ⟨fun z => absurd z (by decide), fun _ => s217 Q em ek h1 h6 (by omega) (by omega) hpl ⟨nar _, _, rfl, kk⟩⟩⟩⟩
  · exact ⟨fun z => absurd z (by decide), fun _ => ⟨fun z => absurd z (by decide), fun _ => ⟨fun z => absurd z (by decide), fun _ => s217 Q em ek h1 h6 (by omega) (by omega) hpl ⟨nar _, _, rfl, kk⟩⟩⟩⟩
  · have kk : K (bi (!decide (22 ≤ y))) h := kk
    refine ⟨fun z => absurd z (by decide), fun _ => ⟨fun _ => ⟨fun c => ⟨_, rfl, ?_⟩, fun c => ⟨_, rfl, ?_⟩⟩, fun z => absurd rfl z⟩⟩
    · rw [decide_eq_true c] at kk; exact kk
    · rw [decide_eq_false c] at kk; exact kk
  · exact ⟨fun z => absurd z (by decide), fun _ => ⟨fun z => absurd z (by decide), fun _ => ⟨fun z => absurd z (by decide), fun _ => s217 Q em ek h1 h6 (by omega) (by omega) hpl ⟨nar _, _, rfl, kk⟩⟩⟩⟩
  · have kk : K (bi (borC x y)) h := kk
    unfold borC at kk
    refine ⟨fun z => absurd z (by decide), fun _ => ⟨fun z => absurd z (by decide), fun _ => ⟨fun _ => s214 ⟨fun c => ⟨_, rfl, ?_⟩, fun c => s214 ⟨fun c2 => ⟨_, rfl, ?_⟩, fun c2 => s214 ⟨fun c3 => ⟨_, rfl, ?_⟩, fun c3 => s214 ⟨fun c4 => ⟨_, rfl, ?_⟩, fun c4 => ⟨_, rfl, ?_⟩⟩⟩⟩⟩, fun z => absurd rfl z⟩⟩⟩
    · rw [bo0.mp c] at kk; exact kk
    · rw [bo1.mp c, bo0.mp c2] at kk; exact kk
    · rw [bo1.mp c, bo1.mp c2, bo0.mp c3] at kk; exact kk
    · rw [bo1.mp c, bo1.mp c2, bo1.mp c3, bo1.mp c4] at kk; exact kk
    · rw [bo1.mp c, bo1.mp c2, bo1.mp c3, bo0.mp (Classical.not_not.mp c4)] at kk; exact kk
  · exact ⟨fun z => absurd z (by decide), fun _ => ⟨fun z => absurd z (by decide), fun _ => ⟨fun z => absurd z (by decide), fun _ => s217 Q em ek h1 h6 (by omega) (by omega) hpl ⟨nar _, _, rfl, kk⟩⟩⟩⟩
