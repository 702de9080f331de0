/-! WHAT A SHIELD SAYS, behind its field -/
/-- an empty part: kind, tincture, number, attitude, five duties -/
def emR : Nat → Int32 := fun i => if i < 4 then 0 else -1
def putS (sh : Nat → Int32) (pl : Nat) (r : Nat → Int32) : Nat → Int32 := fun j => if 3 + 9 * pl ≤ j ∧ j < 3 + 9 * pl + 9 then r (j - (3 + 9 * pl)) else sh j
theorem put_st (sh : Nat → Int32) (pl : Nat) (r : Nat → Int32) {i : Nat} (v : Int32) (hi : i < 9) : st (putS sh pl r) (3 + (9 * pl + i)) v = putS sh pl (st r i v) := by
  funext j
  unfold st putS
  by_cases e : j = 3 + (9 * pl + i)
  · rw [if_pos e, if_pos (by omega)]
    exact (if_pos (by omega)).symm
  · rw [if_neg e]
    by_cases e2 : 3 + 9 * pl ≤ j ∧ j < 3 + 9 * pl + 9
    · rw [if_pos e2, if_pos e2]
      exact (if_neg (by omega)).symm
    · rw [if_neg e2, if_neg e2]
theorem put_r (sh : Nat → Int32) (pl : Nat) (r : Nat → Int32) {i : Nat} (hi : i < 9) : putS sh pl r (3 + (9 * pl + i)) = r i := by
  unfold putS
  rw [if_pos (by omega), show 3 + (9 * pl + i) - (3 + 9 * pl) = i by omega]
theorem put_self {sh : Nat → Int32} {pl : Nat} {r : Nat → Int32} (h : ∀ i, i < 9 → sh (3 + 9 * pl + i) = r i) : putS sh pl r = sh := by
  funext j
  unfold putS
  by_cases e : 3 + 9 * pl ≤ j ∧ j < 3 + 9 * pl + 9
  · rw [if_pos e, ← h (j - (3 + 9 * pl)) (by omega), show 3 + 9 * pl + (j - (3 + 9 * pl)) = j by omega]
  · rw [if_neg e]
theorem put_put (sh : Nat → Int32) (pl : Nat) (r r' : Nat → Int32) : putS (putS sh pl r) pl r' = putS sh pl r' := by
  funext j
  unfold putS
  by_cases e : 3 + 9 * pl ≤ j ∧ j < 3 + 9 * pl + 9
  · rw [if_pos e, if_pos e]
  · rw [if_neg e, if_neg e, if_neg e]
/-- may a kind have a duty -/
def haD (k d : Nat) : Bool := (d == 0 && (k == 16 || k == 17 || k == 19)) || (d == 1 && k == 18) || (d == 2 && (k == 16 || k == 19)) || (d == 3 && k == 21) || (d == 4 && k == 29)
def dutS (kd np : Nat → Nat) (kind : Nat) : Nat → Nat → Nat → (Nat → Int32) → Option (Nat → Int32) × Nat
  | 0, _, p, r => (some r, p)
  | m + 1, d, p, r => if haD kind d = true ∧ kd p = 65 + d then (if kd (np p) < 9 then dutS kd np kind m (d + 1) (np (np p)) (st r (4 + d) (nI (kd (np p)))) else (none, np p)) else dutS kd np kind m (d + 1) p r
def chg2 (kd np : Nat → Nat) (kind p : Nat) (r : Nat → Int32) : Option (Nat → Int32) × Nat := if kd p < 9 then dutS kd np kind 5 0 (np p) (st r 1 (nI (kd p))) else (none, p)
def atK (kind c : Nat) : Bool := if kind = 19 then decide (63 ≤ c ∧ c ≤ 64) else decide (60 ≤ c ∧ c ≤ 62)
/-- charges of a kind, m of them, from their name on -/
def chgS (kd np : Nat → Nat) (kind m p : Nat) : Option (Nat → Int32) × Nat :=
  if kind ≤ 19 then (if atK kind (kd (np p)) = true then chg2 kd np kind (np (np p)) (st (st (st emR 0 (nI kind)) 2 (nI m)) 3 (nI (kd (np p) - 59))) else (none, np p))
  else chg2 kd np kind (np p) (st (st emR 0 (nI kind)) 2 (nI m))
/-- the kind that a code names, in the singular for 1; 0: none -/
def nmK (m c : Nat) : Nat := if m = 1 then (if 25 ≤ c ∧ c < 39 then c - 9 else 0) else (if 40 ≤ c ∧ c < 54 then c - 24 else 0)
def chaS (kd np : Nat → Nat) (pl m p : Nat) : Option (Nat × (Nat → Int32)) × Nat := if nmK m (kd p) = 0 then (none, p) else (((chgS kd np (nmK m (kd p)) m p).1.map (fun r => (pl, r))), (chgS kd np (nmK m (kd p)) m p).2)
/-- a part with a tincture alone -/
def plaS (kd np : Nat → Nat) (pl kind p : Nat) : Option (Nat × (Nat → Int32)) × Nat := if kd p < 9 then (some (pl, st (st (st emR 0 (nI kind)) 1 (nI (kd p))) 2 1), np p) else (none, p)
def onS (kd np : Nat → Nat) (pl p : Nat) : Option (Nat × (Nat → Int32)) × Nat := if kd p = 80 then (if 54 ≤ kd (np p) ∧ kd (np p) < 60 then chaS kd np pl (kd (np p) - 53) (np (np p)) else (none, np p)) else (none, p)
def borS (kd np : Nat → Nat) (p : Nat) : Option (Nat × (Nat → Int32)) × Nat := if kd p = 54 then (if kd (np p) = 24 then plaS kd np 5 15 (np (np p)) else (none, np p)) else (none, p)
/-- is a code a mark's word -/
def isM (c : Nat) : Bool := c == 39 || c == 34 || c == 33 || c == 29 || c == 35 || c == 31 || c == 30
def marS (kd np : Nat → Nat) (p : Nat) : Option (Nat × (Nat → Int32)) × Nat := if kd p = 81 then (if kd (np p) = 54 then (if isM (kd (np (np p))) = true then plaS kd np 6 (kd (np (np p)) - 9) (np (np (np p))) else (none, np (np p))) else (none, np p)) else (none, p)
/-- what stands behind an opening word of number o, behind the part at place l - 1 -/
def nexS (kd np : Nat → Nat) (l o p : Nat) : Option (Nat × (Nat → Int32)) × Nat :=
  if o = 0 ∧ 17 ≤ kd p ∧ kd p ≤ 23 ∧ l = 0 then plaS kd np 0 (kd p - 9) (np p)
  else if o = 0 ∧ kd p = 16 then plaS kd np 3 7 (np p)
  else if l ≤ 2 then chaS kd np 2 (o + 1) p
  else (none, p)
/-- a member behind its comma -/
def comS (kd np : Nat → Nat) (l p : Nat) : Option (Nat × (Nat → Int32)) × Nat :=
  if kd p = 76 ∧ l ≤ 5 then borS kd np (np p)
  else if kd p = 77 ∧ l ≤ 6 then marS kd np (np p)
  else if (kd p = 54 ∧ l ≤ 3) ∨ (55 ≤ kd p ∧ kd p < 60 ∧ l ≤ 2) then nexS kd np l (kd p - 54) (np p)
  else (none, p)
/-- a member behind the part at place l - 1 (0: behind the field) -/
def memS (kd np : Nat → Nat) (l p : Nat) : Option (Nat × (Nat → Int32)) × Nat :=
  if (l = 1 ∨ l = 4) ∧ kd p = 79 then onS kd np l (np p)
  else if l = 7 ∨ ¬ kd p = 344 then (none, p)
  else comS kd np l (np p)
def looS (kd np : Nat → Nat) : Nat → Nat → Nat → (Nat → Int32) → Option (Nat → Int32) × Nat
  | 0, _, p, sh => if kd p = 200 then (some sh, p) else (none, p)
  | f + 1, l, p, sh => if kd p = 200 then (some sh, p) else match memS kd np l p with
    | (none, q) => (none, q)
    | (some (pl, r), q) => looS kd np f (pl + 1) q (putS sh pl r)
def iniS (a b c : Nat) : Nat → Int32 := fun j => if j = 0 then nI a else if j = 1 then nI b else if j = 2 then tnI c else emR ((j - 3) % 9)
/-- the whole text: the shield's cells, or the place that it is refused at -/
def shiS (kd np : Nat → Nat) : Option (Nat → Int32) × Nat := match fldS kd np 0 with
  | (none, q) => (none, q)
  | (some (a, b, c), q) => looS kd np 7 0 q (iniS a b c)
