/-! THE REFERENCE's shape: its rows by their numbers; the row of a shield under way -/
def rfT : List (Nat × Nat × Nat × Nat) := [(0, 22, 0, 240), (2, 22, 1, 241), (12, 21, 0, 61), (13, 21, 1, 61), (14, 21, 2, 61), (15, 21, 3, 3843), (16, 22, 2, 700), (18, 21, 4, 6), (19, 21, 5, 6), (20, 21, 6, 72), (21, 21, 7, 72), (22, 21, 8, 72), (23, 21, 9, 72), (24, 21, 10, 1440), (25, 21, 11, 1440), (26, 21, 12, 250), (33, 21, 13, 2200), (35, 21, 14, 12), (36, 21, 15, 12), (37, 21, 16, 12), (38, 21, 17, 12), (41, 24, 0, 100), (42, 21, 18, 100), (43, 21, 19, 100), (44, 21, 20, 100), (45, 21, 21, 100), (46, 21, 22, 3200), (47, 21, 23, 100)]
def RSh (h : Hp) : Prop := ∀ e ∈ rfT, jR h 11 0 e.1 = some e.2.2.1 ∧ jLen h e.2.1 e.2.2.1 = e.2.2.2
theorem RSh.r0 {h : Hp} (S : RSh h) : jR h 11 0 0 = some 0 := (S (0, 22, 0, 240) (by decide)).1
theorem RSh.n0 {h : Hp} (S : RSh h) : jLen h 22 0 = 240 := (S (0, 22, 0, 240) (by decide)).2
theorem RSh.r2 {h : Hp} (S : RSh h) : jR h 11 0 2 = some 1 := (S (2, 22, 1, 241) (by decide)).1
theorem RSh.n2 {h : Hp} (S : RSh h) : jLen h 22 1 = 241 := (S (2, 22, 1, 241) (by decide)).2
theorem RSh.r12 {h : Hp} (S : RSh h) : jR h 11 0 12 = some 0 := (S (12, 21, 0, 61) (by decide)).1
theorem RSh.n12 {h : Hp} (S : RSh h) : jLen h 21 0 = 61 := (S (12, 21, 0, 61) (by decide)).2
theorem RSh.r13 {h : Hp} (S : RSh h) : jR h 11 0 13 = some 1 := (S (13, 21, 1, 61) (by decide)).1
theorem RSh.n13 {h : Hp} (S : RSh h) : jLen h 21 1 = 61 := (S (13, 21, 1, 61) (by decide)).2
theorem RSh.r14 {h : Hp} (S : RSh h) : jR h 11 0 14 = some 2 := (S (14, 21, 2, 61) (by decide)).1
theorem RSh.n14 {h : Hp} (S : RSh h) : jLen h 21 2 = 61 := (S (14, 21, 2, 61) (by decide)).2
theorem RSh.r15 {h : Hp} (S : RSh h) : jR h 11 0 15 = some 3 := (S (15, 21, 3, 3843) (by decide)).1
theorem RSh.n15 {h : Hp} (S : RSh h) : jLen h 21 3 = 3843 := (S (15, 21, 3, 3843) (by decide)).2
theorem RSh.r16 {h : Hp} (S : RSh h) : jR h 11 0 16 = some 2 := (S (16, 22, 2, 700) (by decide)).1
theorem RSh.n16 {h : Hp} (S : RSh h) : jLen h 22 2 = 700 := (S (16, 22, 2, 700) (by decide)).2
theorem RSh.r18 {h : Hp} (S : RSh h) : jR h 11 0 18 = some 4 := (S (18, 21, 4, 6) (by decide)).1
theorem RSh.n18 {h : Hp} (S : RSh h) : jLen h 21 4 = 6 := (S (18, 21, 4, 6) (by decide)).2
theorem RSh.r19 {h : Hp} (S : RSh h) : jR h 11 0 19 = some 5 := (S (19, 21, 5, 6) (by decide)).1
theorem RSh.n19 {h : Hp} (S : RSh h) : jLen h 21 5 = 6 := (S (19, 21, 5, 6) (by decide)).2
theorem RSh.r20 {h : Hp} (S : RSh h) : jR h 11 0 20 = some 6 := (S (20, 21, 6, 72) (by decide)).1
theorem RSh.n20 {h : Hp} (S : RSh h) : jLen h 21 6 = 72 := (S (20, 21, 6, 72) (by decide)).2
theorem RSh.r21 {h : Hp} (S : RSh h) : jR h 11 0 21 = some 7 := (S (21, 21, 7, 72) (by decide)).1
theorem RSh.n21 {h : Hp} (S : RSh h) : jLen h 21 7 = 72 := (S (21, 21, 7, 72) (by decide)).2
theorem RSh.r22 {h : Hp} (S : RSh h) : jR h 11 0 22 = some 8 := (S (22, 21, 8, 72) (by decide)).1
theorem RSh.n22 {h : Hp} (S : RSh h) : jLen h 21 8 = 72 := (S (22, 21, 8, 72) (by decide)).2
theorem RSh.r23 {h : Hp} (S : RSh h) : jR h 11 0 23 = some 9 := (S (23, 21, 9, 72) (by decide)).1
theorem RSh.n23 {h : Hp} (S : RSh h) : jLen h 21 9 = 72 := (S (23, 21, 9, 72) (by decide)).2
theorem RSh.r24 {h : Hp} (S : RSh h) : jR h 11 0 24 = some 10 := (S (24, 21, 10, 1440) (by decide)).1
theorem RSh.n24 {h : Hp} (S : RSh h) : jLen h 21 10 = 1440 := (S (24, 21, 10, 1440) (by decide)).2
theorem RSh.r25 {h : Hp} (S : RSh h) : jR h 11 0 25 = some 11 := (S (25, 21, 11, 1440) (by decide)).1
theorem RSh.n25 {h : Hp} (S : RSh h) : jLen h 21 11 = 1440 := (S (25, 21, 11, 1440) (by decide)).2
theorem RSh.r26 {h : Hp} (S : RSh h) : jR h 11 0 26 = some 12 := (S (26, 21, 12, 250) (by decide)).1
theorem RSh.n26 {h : Hp} (S : RSh h) : jLen h 21 12 = 250 := (S (26, 21, 12, 250) (by decide)).2
theorem RSh.r33 {h : Hp} (S : RSh h) : jR h 11 0 33 = some 13 := (S (33, 21, 13, 2200) (by decide)).1
theorem RSh.n33 {h : Hp} (S : RSh h) : jLen h 21 13 = 2200 := (S (33, 21, 13, 2200) (by decide)).2
theorem RSh.r35 {h : Hp} (S : RSh h) : jR h 11 0 35 = some 14 := (S (35, 21, 14, 12) (by decide)).1
theorem RSh.n35 {h : Hp} (S : RSh h) : jLen h 21 14 = 12 := (S (35, 21, 14, 12) (by decide)).2
theorem RSh.r36 {h : Hp} (S : RSh h) : jR h 11 0 36 = some 15 := (S (36, 21, 15, 12) (by decide)).1
theorem RSh.n36 {h : Hp} (S : RSh h) : jLen h 21 15 = 12 := (S (36, 21, 15, 12) (by decide)).2
theorem RSh.r37 {h : Hp} (S : RSh h) : jR h 11 0 37 = some 16 := (S (37, 21, 16, 12) (by decide)).1
theorem RSh.n37 {h : Hp} (S : RSh h) : jLen h 21 16 = 12 := (S (37, 21, 16, 12) (by decide)).2
theorem RSh.r38 {h : Hp} (S : RSh h) : jR h 11 0 38 = some 17 := (S (38, 21, 17, 12) (by decide)).1
theorem RSh.n38 {h : Hp} (S : RSh h) : jLen h 21 17 = 12 := (S (38, 21, 17, 12) (by decide)).2
theorem RSh.r41 {h : Hp} (S : RSh h) : jR h 11 0 41 = some 0 := (S (41, 24, 0, 100) (by decide)).1
theorem RSh.n41 {h : Hp} (S : RSh h) : jLen h 24 0 = 100 := (S (41, 24, 0, 100) (by decide)).2
theorem RSh.r42 {h : Hp} (S : RSh h) : jR h 11 0 42 = some 18 := (S (42, 21, 18, 100) (by decide)).1
theorem RSh.n42 {h : Hp} (S : RSh h) : jLen h 21 18 = 100 := (S (42, 21, 18, 100) (by decide)).2
theorem RSh.r43 {h : Hp} (S : RSh h) : jR h 11 0 43 = some 19 := (S (43, 21, 19, 100) (by decide)).1
theorem RSh.n43 {h : Hp} (S : RSh h) : jLen h 21 19 = 100 := (S (43, 21, 19, 100) (by decide)).2
theorem RSh.r44 {h : Hp} (S : RSh h) : jR h 11 0 44 = some 20 := (S (44, 21, 20, 100) (by decide)).1
theorem RSh.n44 {h : Hp} (S : RSh h) : jLen h 21 20 = 100 := (S (44, 21, 20, 100) (by decide)).2
theorem RSh.r45 {h : Hp} (S : RSh h) : jR h 11 0 45 = some 21 := (S (45, 21, 21, 100) (by decide)).1
theorem RSh.n45 {h : Hp} (S : RSh h) : jLen h 21 21 = 100 := (S (45, 21, 21, 100) (by decide)).2
theorem RSh.r46 {h : Hp} (S : RSh h) : jR h 11 0 46 = some 22 := (S (46, 21, 22, 3200) (by decide)).1
theorem RSh.n46 {h : Hp} (S : RSh h) : jLen h 21 22 = 3200 := (S (46, 21, 22, 3200) (by decide)).2
theorem RSh.r47 {h : Hp} (S : RSh h) : jR h 11 0 47 = some 23 := (S (47, 21, 23, 100) (by decide)).1
theorem RSh.n47 {h : Hp} (S : RSh h) : jLen h 21 23 = 100 := (S (47, 21, 23, 100) (by decide)).2
theorem RSh.of {h g : Hp} (S : RSh h) (e1 : jR g = jR h) (e2 : jLen g = jLen h) : RSh g := by
  unfold RSh
  rw [e1, e2]
  exact S
/-- a cell set -/
def st (f : Nat → Int32) (k : Nat) (v : Int32) : Nat → Int32 := fun j => if j = k then v else f j
theorem st_eq (f : Nat → Int32) (k : Nat) (v : Int32) : st f k v k = v := if_pos rfl
theorem st_ne {f : Nat → Int32} {k j : Nat} {v : Int32} (h : j ≠ k) : st f k v j = f j := if_neg h
theorem st_st (f : Nat → Int32) (k : Nat) (v w : Int32) : st (st f k v) k w = st f k w := by
  funext j
  unfold st
  by_cases e : j = k
  · rw [if_pos e, if_pos e]
  · rw [if_neg e, if_neg e, if_neg e]
/-- the cells of shield k: 0 parting, 1 first, 2 second, 3 + 9 * place + i the parts -/
def rowI (f : Nat → Nat → Nat → Int32) (k : Nat) (sh : Nat → Int32) : Nat → Nat → Nat → Int32 := fun t a j => if t = 21 ∧ a < 3 ∧ j = k then sh a else if t = 21 ∧ a = 3 ∧ 63 * k ≤ j ∧ j < 63 * k + 63 then sh (3 + (j - 63 * k)) else f t a j
def rowH (H : Hp) (k : Nat) (sh : Nat → Int32) : Hp := (jN H, jLen H, rowI (jI H) k sh, jL H, jR H, jC H, jZ H)
theorem row_w0 (H : Hp) (k : Nat) (sh : Nat → Int32) {a : Nat} (v : Int32) (ha : a < 3) : wI (rowH H k sh) 21 a k v = rowH H k (st sh a v) := by
  have : up3 (rowI (jI H) k sh) 21 a k v = rowI (jI H) k (st sh a v) := by
    funext r b j
    unfold up3 rowI
    by_cases e : r = 21 ∧ b = a ∧ j = k
    · rw [if_pos e, if_pos ⟨e.1, by omega, e.2.2⟩, e.2.1, st_eq]
    · rw [if_neg e]
      by_cases e2 : r = 21 ∧ b < 3 ∧ j = k
      · rw [if_pos e2, if_pos e2, st_ne (by omega)]
      · rw [if_neg e2, if_neg e2]
        by_cases e3 : r = 21 ∧ b = 3 ∧ 63 * k ≤ j ∧ j < 63 * k + 63
        · rw [if_pos e3, if_pos e3, st_ne (by omega)]
        · rw [if_neg e3, if_neg e3]
  exact Hp_ext rfl rfl this rfl rfl rfl rfl
theorem row_w3 (H : Hp) (k : Nat) (sh : Nat → Int32) {i : Nat} (v : Int32) (hi : i < 63) : wI (rowH H k sh) 21 3 (63 * k + i) v = rowH H k (st sh (3 + i) v) := by
  have : up3 (rowI (jI H) k sh) 21 3 (63 * k + i) v = rowI (jI H) k (st sh (3 + i) v) := by
    funext r b j
    unfold up3 rowI
    by_cases e : r = 21 ∧ b = 3 ∧ j = 63 * k + i
    · rw [if_pos e, if_neg (fun z => by omega), if_pos ⟨e.1, e.2.1, by omega, by omega⟩, e.2.2, show 63 * k + i - 63 * k = i by omega, st_eq]
    · rw [if_neg e]
      by_cases e2 : r = 21 ∧ b < 3 ∧ j = k
      · rw [if_pos e2, if_pos e2, st_ne (by omega)]
      · rw [if_neg e2, if_neg e2]
        by_cases e3 : r = 21 ∧ b = 3 ∧ 63 * k ≤ j ∧ j < 63 * k + 63
        · rw [if_pos e3, if_pos e3, st_ne (by omega)]
        · rw [if_neg e3, if_neg e3]
  exact Hp_ext rfl rfl this rfl rfl rfl rfl
theorem row_r0 (H : Hp) (k : Nat) (sh : Nat → Int32) {a : Nat} (ha : a < 3) : jI (rowH H k sh) 21 a k = sh a := if_pos ⟨rfl, ha, rfl⟩
theorem row_r3 (H : Hp) (k : Nat) (sh : Nat → Int32) {i : Nat} (hi : i < 63) : jI (rowH H k sh) 21 3 (63 * k + i) = sh (3 + i) := by
  show rowI (jI H) k sh 21 3 (63 * k + i) = _
  unfold rowI
  rw [if_neg (fun z => by omega), if_pos ⟨rfl, rfl, by omega, by omega⟩, show 63 * k + i - 63 * k = i by omega]
theorem row_t {H : Hp} {k : Nat} {sh : Nat → Int32} {t a j : Nat} (ht : t ≠ 21) : jI (rowH H k sh) t a j = jI H t a j := by
  show rowI (jI H) k sh t a j = _
  unfold rowI
  rw [if_neg (fun z => ht z.1), if_neg (fun z => ht z.1)]
/-! WHAT A SHIELD SAYS: the readers' common meaning, over codes -/
def lnS (c : Nat) : Nat := if c = 17 then 1 else if c = 18 then 2 else if c = 19 then 3 else if c = 20 then 4 else if c = 22 then 5 else 0
/-- the field behind its parting: accepted cells and the place behind, or the place that it is refused at -/
def fld2 (kd np : Nat → Nat) (pa q : Nat) : Option (Nat × Nat × Nat) × Nat :=
  if kd q < 9 then (if kd (np q) = 78 then (if kd (np (np q)) < 9 ∧ kd (np (np q)) ≠ kd q then (some (pa, kd q, kd (np (np q))), np (np (np q))) else (none, np (np q))) else (none, np q)) else (none, q)
def fldS (kd np : Nat → Nat) (p : Nat) : Option (Nat × Nat × Nat) × Nat :=
  if kd p < 9 then (some (0, kd p, 99), np p)
  else if kd p = 70 then (if lnS (kd (np p)) = 0 then (none, np p) else fld2 kd np (lnS (kd (np p))) (np (np p)))
  else if 71 ≤ kd p ∧ kd p ≤ 75 then fld2 kd np (kd p - 65) (np p)
  else (none, p)
/-- tincture number 99: none -/
def tnI (t : Nat) : Int32 := if t = 99 then -1 else nI t
