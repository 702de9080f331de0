/-! values of words; the class's dutyCount, fieldSort, sortBelow, valueOf, combine -/
def dcN (r : Nat → Int32) : Nat → Nat
  | 0 => 0
  | m + 1 => dcN r m + (if r (4 + m) = -1 then 0 else 1)
theorem dcN_le (r : Nat → Int32) : ∀ m, dcN r m ≤ m
  | 0 => Nat.le_refl _
  | m + 1 => by
    have := dcN_le r m
    unfold dcN
    split <;> omega
theorem d26 {d pt da pl : Nat} {r : Nat → Int32} {h : Hp} {K : Int32 → Hp → Prop} {P : Nat → List AV → List AV → Hp → Prop} (hP : Cl (Call d) 26 (fun v h' => ∃ x, v = some (vI x) ∧ K x h') P) (Q : PtOK h pt da pl r) (k : K (nI (dcN r 5)) h) : ∀ mm t, t + mm = 5 → P 4 [vR 3 (some pt), vI (nI (dcN r t)), vI (nI t)] [] h
  | 0, t, ht => by
    have e : t = 5 := by omega
    subst e
    exact v26_4 hP pt _ (nI 5) h ⟨fun _ => ⟨_, rfl, k⟩, fun c => absurd (by decide) c⟩
  | mm + 1, t, ht => by
    obtain ⟨q0, q1, q2, q3, q4, q5, q6, q7⟩ := id Q
    have it : ix (nI t) = t := nI_clamp (by omega)
    have ih := d26 hP Q k mm (t + 1) (by omega)
    unfold dcN at ih
    refine v26_4 hP pt _ (nI t) h ⟨fun c => absurd c (nI_ge (b := 5) (by omega) (by omega)), fun _ => dr_of q5 ⟨by rw [q6]; exact vp_in_nI (by omega) (by decide), fun c => ?_, fun c => ?_⟩⟩
    · rw [it, q7 t (by omega)] at c
      rw [if_pos c] at ih
      rw [nI_1]
      exact ih
    · rw [it, q7 t (by omega)] at c
      rw [if_neg c] at ih
      rw [nI_1, nI_1]
      exact ih
theorem s26 {d pt da pl : Nat} {r : Nat → Int32} {h : Hp} {K : Int32 → Hp → Prop} (Q : PtOK h pt da pl r) (k : K (nI (dcN r 5)) h) : CI (d + 1) 26 [vR 3 (some pt)] h K := fun P hP => v26 hP pt h (d26 (t := 0) hP Q k 5 rfl)
def fsS (sh : Nat → Int32) : Int32 := if sh 0 = 0 then sortS (sh 1) else if sortS (sh 1) = sortS (sh 2) then sortS (sh 1) else 0
/-- the sort of what a part lies on -/
def blS (sh : Nat → Int32) (pl : Nat) : Int32 := if pl = 1 then sortS (sh 4) else if pl = 4 then sortS (sh 31) else fsS sh
theorem s61 {d s pa : Nat} {sh : Nat → Int32} {h : Hp} {K : Int32 → Hp → Prop} (Q : ShOK h s pa sh) (k : K (fsS sh) h) : CI (d + 2) 61 [vR 7 (some s)] h K := by
  intro P hP
  obtain ⟨q1, q2, q3, q4, q5, q6, q7, q8⟩ := Q
  unfold fsS at k
  refine v61 hP s h (s102 ?_)
  rw [q3, q4, q5]
  refine ⟨fun c => ⟨_, rfl, ?_⟩, fun c => s102 ⟨fun c2 => ⟨_, rfl, ?_⟩, fun c2 => ⟨_, rfl, ?_⟩⟩⟩
  · rw [if_pos c] at k; exact k
  · rw [if_neg c, if_neg c2] at k; exact k
  · rw [if_neg c, if_pos (Classical.not_not.mp c2)] at k; exact k
/-- a part on another has that other -/
def OnV (sh : Nat → Int32) : Prop := (¬ sh 12 = 0 → ¬ sh 3 = 0) ∧ (¬ sh 39 = 0 → ¬ sh 30 = 0)
theorem ShOK.at {h : Hp} {s pa pl : Nat} {sh : Nat → Int32} (Q : ShOK h s pa sh) (hpl : pl < 7) (hn : ¬ sh (3 + 9 * pl) = 0) : ∃ pt da, jR h 33 pa pl = some pt ∧ pt < jN h 3 ∧ (da < jN h 21 ∧ 31 ≤ da) ∧ PV pl (fun i => sh (3 + 9 * pl + i)) ∧ PtOK h pt da pl (fun i => sh (3 + 9 * pl + i)) := by
  rcases Q.2.2.2.2.2.2.2 pl hpl with z | z
  · exact absurd (z.2 0 (by decide)) hn
  · exact z
theorem s60 {d s pa pt da pl : Nat} {sh : Nat → Int32} {h : Hp} {K : Int32 → Hp → Prop} (Q : ShOK h s pa sh) (V : OnV sh) (hpl : pl < 7) (hn : ¬ sh (3 + 9 * pl) = 0) (Qp : PtOK h pt da pl (fun i => sh (3 + 9 * pl + i))) (k : K (blS sh pl) h) : CI (d + 3) 60 [vR 7 (some s), vR 3 (some pt)] h K := by
  intro P hP
  have e0 := Qp.1
  unfold blS at k
  have q6 := Q.2.2.2.2.2.1
  have q7 := Q.2.2.2.2.2.2.1
  refine v60 hP s (some pt) h (dr_of rfl ⟨fun c1 => dr_of rfl ⟨fun c4 => s61 Q ⟨_, rfl, ?_⟩, fun c4 => dr_of q6 ⟨by rw [q7]; exact vp_in_nI (n := 3) (by decide) (by decide), ?_⟩⟩, fun c1 => dr_of q6 ⟨by rw [q7]; exact vp_in_nI (n := 0) (by decide) (by decide), ?_⟩⟩)
  · have n1 : ¬ pl = 1 := fun z => c1 (by rw [e0, z]; rfl)
    have n4 : ¬ pl = 4 := fun z => c4 (by rw [e0, z]; rfl)
    rw [if_neg n1, if_neg n4] at k; exact k
  · have n4 : pl = 4 := by
      have z := Classical.not_not.mp c4
      rw [e0] at z
      exact (nI_eq (a := pl) (b := 4) (by omega) (by decide)).mp z
    subst n4
    obtain ⟨pt2, da2, z1, z2, z3, z4, z5⟩ := Q.at (pl := 3) (by decide) (V.2 hn)
    rw [z1]
    refine ⟨fun _ => dr_of rfl (s102 ⟨_, rfl, ?_⟩), fun z => absurd (fun y => by cases y) z⟩
    rw [z5.2.2.2.2.1]
    exact k
  · have n1 : pl = 1 := by
      have z := Classical.not_not.mp c1
      rw [e0] at z
      exact (nI_eq (a := pl) (b := 1) (by omega) (by decide)).mp z
    subst n1
    obtain ⟨pt2, da2, z1, z2, z3, z4, z5⟩ := Q.at (pl := 0) (by decide) (V.1 hn)
    rw [z1]
    refine ⟨fun _ => dr_of rfl (s102 ⟨_, rfl, ?_⟩), fun z => absurd (fun y => by cases y) z⟩
    rw [z5.2.2.2.2.1]
    exact k
/-- the value of word w for the part at place pl -/
def vlS (sh : Nat → Int32) (pl w : Nat) : Int32 := if w = 0 then sortS (sh (3 + 9 * pl + 1)) else if w = 1 then blS sh pl else if w = 2 then sh (3 + 9 * pl + 1) else if w = 3 then sh (3 + 9 * pl + 2) else if w = 4 then sh (3 + 9 * pl + 3) else if w = 5 then nI (dcN (fun i => sh (3 + 9 * pl + i)) 5) else if w = 6 then sh (3 + 9 * pl + 0) else nI pl
theorem s8 {d s pa pt da pl w : Nat} {nx : Int32} {sh : Nat → Int32} {h : Hp} {K : Int32 → Hp → Prop} (Q : ShOK h s pa sh) (V : OnV sh) (hpl : pl < 7) (hn : ¬ sh (3 + 9 * pl) = 0) (Qp : PtOK h pt da pl (fun i => sh (3 + 9 * pl + i))) (hw : w < 9) (k : K (if w = 8 then nx else vlS sh pl w) h) : CI (d + 4) 8 [vI (nI w), vR 7 (some s), vR 3 (some pt), vI nx] h K := by
  intro P hP
  obtain ⟨q0, q1, q2, q3, q4, q5, q6, q7⟩ := id Qp
  have hc : w = 0 ∨ w = 1 ∨ w = 2 ∨ w = 3 ∨ w = 4 ∨ w = 5 ∨ w = 6 ∨ w = 7 ∨ w = 8 := by omega
  rcases hc with rfl | rfl | rfl | rfl | rfl | rfl | rfl | rfl | rfl
  · exact v8 hP (nI 0) (some s) (some pt) nx h ⟨fun _ => dr_of rfl (s102 ⟨_, rfl, by rw [q4]; exact k⟩), fun z => absurd rfl z⟩
  · exact v8 hP (nI 1) (some s) (some pt) nx h ⟨fun z => absurd z (by decide), fun _ => ⟨fun _ => dr_of rfl (s60 Q V hpl hn Qp ⟨_, rfl, k⟩), fun z => absurd rfl z⟩⟩
  · exact v8 hP (nI 2) (some s) (some pt) nx h ⟨fun z => absurd z (by decide), fun _ => ⟨fun z => absurd z (by decide), fun _ => ⟨fun _ => dr_of rfl ⟨_, rfl, by rw [q4]; exact k⟩, fun z => absurd rfl z⟩⟩⟩
  · exact v8 hP (nI 3) (some s) (some pt) nx h ⟨fun z => absurd z (by decide), fun _ => ⟨fun z => absurd z (by decide), fun _ => ⟨fun z => absurd z (by decide), fun _ => ⟨fun _ => dr_of rfl ⟨_, rfl, by rw [q2]; exact k⟩, fun z => absurd rfl z⟩⟩⟩⟩
  · exact v8 hP (nI 4) (some s) (some pt) nx h ⟨fun z => absurd z (by decide), fun _ => ⟨fun z => absurd z (by decide), fun _ => ⟨fun z => absurd z (by decide), fun _ => ⟨fun z => absurd z (by decide), fun _ => ⟨fun _ => dr_of rfl ⟨_, rfl, by rw [q3]; exact k⟩, fun z => absurd rfl z⟩⟩⟩⟩⟩
  · exact v8 hP (nI 5) (some s) (some pt) nx h ⟨fun z => absurd z (by decide), fun _ => ⟨fun z => absurd z (by decide), fun _ => ⟨fun z => absurd z (by decide), fun _ => ⟨fun z => absurd z (by decide), fun _ => ⟨fun z => absurd z (by decide), fun _ => ⟨fun _ => dr_of rfl (s26 Qp ⟨_, rfl, k⟩), fun z => absurd rfl z⟩⟩⟩⟩⟩⟩
  · exact v8 hP (nI 6) (some s) (some pt) nx h ⟨fun z => absurd z (by decide), fun _ => ⟨fun z => absurd z (by decide), fun _ => ⟨fun z => absurd z (by decide), fun _ => ⟨fun z => absurd z (by decide), fun _ => ⟨fun z => absurd z (by decide), fun _ => ⟨fun z => absurd z (by decide), fun _ => ⟨fun _ => dr_of rfl ⟨_, rfl, by rw [q1]; exact k⟩, fun z => absurd rfl z⟩⟩⟩⟩⟩⟩⟩
  · exact v8 hP (nI 7) (some s) (some pt) nx h ⟨fun z => absurd z (by decide), fun _ => ⟨fun z => absurd z (by decide), fun _ => ⟨fun z => absurd z (by decide), fun _ => ⟨fun z => absurd z (by decide), fun _ => ⟨fun z => absurd z (by decide), fun _ => ⟨fun z => absurd z (by decide), fun _ => ⟨fun z => absurd z (by decide), fun _ => ⟨fun _ => dr_of rfl ⟨_, rfl, by rw [q0]; exact k⟩, fun z => absurd rfl z⟩⟩⟩⟩⟩⟩⟩⟩
  · exact v8 hP (nI 8) (some s) (some pt) nx h ⟨fun z => absurd z (by decide), fun _ => ⟨fun z => absurd z (by decide), fun _ => ⟨fun z => absurd z (by decide), fun _ => ⟨fun z => absurd z (by decide), fun _ => ⟨fun z => absurd z (by decide), fun _ => ⟨fun z => absurd z (by decide), fun _ => ⟨fun z => absurd z (by decide), fun _ => ⟨fun z => absurd z (by decide), fun _ => ⟨_, rfl, k⟩⟩⟩⟩⟩⟩⟩⟩⟩
def cmb (s : Nat) (a b : Int32) : Int32 := if s = 0 then a + b else if s = 1 then a - b else if s = 2 then a * b else if s = 3 then (if a = b then 1 else 0) else if s = 4 then (if b ≤ a then 0 else 1) else (if a ≤ b then 0 else 1)
theorem s7 {d s : Nat} {a b : Int32} {h : Hp} {K : Int32 → Hp → Prop} (hs : s < 6) (k : K (cmb s a b) h) : CI (d + 1) 7 [vI (nI s), vI a, vI b] h K := by
  intro P hP
  have hc : s = 0 ∨ s = 1 ∨ s = 2 ∨ s = 3 ∨ s = 4 ∨ s = 5 := by omega
  rcases hc with rfl | rfl | rfl | rfl | rfl | rfl
  · exact v7 hP (nI 0) a b h ⟨fun _ => ⟨_, rfl, k⟩, fun z => absurd rfl z⟩
  · exact v7 hP (nI 1) a b h ⟨fun z => absurd z (by decide), fun _ => ⟨fun _ => ⟨_, rfl, k⟩, fun z => absurd rfl z⟩⟩
  · exact v7 hP (nI 2) a b h ⟨fun z => absurd z (by decide), fun _ => ⟨fun z => absurd z (by decide), fun _ => ⟨fun _ => ⟨_, rfl, k⟩, fun z => absurd rfl z⟩⟩⟩
  · have k : K (if a = b then 1 else 0) h := k
    refine v7 hP (nI 3) a b h ⟨fun z => absurd z (by decide), fun _ => ⟨fun z => absurd z (by decide), fun _ => ⟨fun z => absurd z (by decide), fun _ => ⟨fun _ => ⟨fun c => ⟨_, rfl, ?_⟩, fun c => ⟨_, rfl, ?_⟩⟩, fun z => absurd rfl z⟩⟩⟩⟩
    · rw [if_neg c] at k; exact k
    · rw [if_pos (Classical.not_not.mp c)] at k; exact k
  · have k : K (if b ≤ a then 0 else 1) h := k
    refine v7 hP (nI 4) a b h ⟨fun z => absurd z (by decide), fun _ => ⟨fun z => absurd z (by decide), fun _ => ⟨fun z => absurd z (by decide), fun _ => ⟨fun z => absurd z (by decide), fun _ => ⟨fun _ => ⟨fun c => ⟨_, rfl, ?_⟩, fun c => ⟨_, rfl, ?_⟩⟩, fun z => absurd rfl z⟩⟩⟩⟩⟩
    · rw [if_pos c] at k; exact k
    · rw [if_neg c] at k; exact k
  · have k : K (if a ≤ b then 0 else 1) h := k
    refine v7 hP (nI 5) a b h ⟨fun z => absurd z (by decide), fun _ => ⟨fun z => absurd z (by decide), fun _ => ⟨fun z => absurd z (by decide), fun _ => ⟨fun z => absurd z (by decide), fun _ => ⟨fun z => absurd z (by decide), fun _ => ⟨fun c => ⟨_, rfl, ?_⟩, fun c => ⟨_, rfl, ?_⟩⟩⟩⟩⟩⟩⟩
    · rw [if_pos c] at k; exact k
    · rw [if_neg c] at k; exact k
