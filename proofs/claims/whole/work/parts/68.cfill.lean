/-! WHAT A PACK SAYS, and the class's readBody, fill -/
def bodS (tx : Nat → Int32) (n : Nat) (D : List Bod) (p : Nat) : Option Bod × Nat :=
  if D.length < 12 ∧ kd tx n p = 82 then
    (if nmN tx n 1 (np tx n p) < 4 then
      (if kd tx n (np tx n (np tx n p)) = 77 then
        (if 9 ≤ kd tx n (np tx n (np tx n (np tx n p))) ∧ kd tx n (np tx n (np tx n (np tx n p))) < 40 ∧ fnd D (nI (nmN tx n 1 (np tx n p))) (nI (kd tx n (np tx n (np tx n (np tx n p))) - 9)) 0 = none then
          (if kd tx n (np tx n (np tx n (np tx n (np tx n p)))) = 358 then
            (match yr tx n 241 true [] 0 [] (np tx n (np tx n (np tx n (np tx n (np tx n p))))) with
              | (none, q) => (none, q)
              | (some C, q) => (some (nmN tx n 1 (np tx n p), kd tx n (np tx n (np tx n (np tx n p))) - 9, C), np tx n q))
          else (none, np tx n (np tx n (np tx n (np tx n p)))))
        else (none, np tx n (np tx n (np tx n p))))
      else (none, np tx n (np tx n p)))
    else (none, np tx n p))
  else (none, p)
def pckS (tx : Nat → Int32) (n : Nat) : Nat → List Bod → Nat → Option (List Bod) × Nat
  | 0, _, p => (none, p)
  | f + 1, D, p => if kd tx n p = 200 then (some D, p) else match bodS tx n D p with
    | (none, q) => (none, q)
    | (some b, q) => pckS tx n f (D ++ [b]) q
theorem pckS_eq (tx : Nat → Int32) (n f : Nat) (D : List Bod) (p : Nat) : pckS tx n (f + 1) D p = (if kd tx n p = 200 then (some D, p) else match bodS tx n D p with
    | (none, q) => (none, q)
    | (some b, q) => pckS tx n f (D ++ [b]) q) := rfl
theorem pckS_n {tx : Nat → Int32} {n f p q : Nat} {D : List Bod} (h : ¬ kd tx n p = 200) (e : bodS tx n D p = (none, q)) : pckS tx n (f + 1) D p = (none, q) := by
  rw [pckS_eq, if_neg h, e]
theorem pckS_s {tx : Nat → Int32} {n f p q : Nat} {D : List Bod} {b : Bod} (h : ¬ kd tx n p = 200) (e : bodS tx n D p = (some b, q)) : pckS tx n (f + 1) D p = pckS tx n f (D ++ [b]) q := by
  rw [pckS_eq, if_neg h, e]
theorem ru4 {x : Int32} {v : Nat} (e : x = if v < 10000 then nI v else -1) : (bi (!decide (x < 0) && !decide (4 ≤ x)) = 0) ↔ ¬ v < 4 := by
  by_cases z : v < 10000
  · rw [if_pos z] at e
    subst e
    have e1 : decide (nI v < 0) = false := decide_eq_false (nI_pos (by omega))
    have e2 : decide ((4 : Int32) ≤ nI v) = decide (4 ≤ v) := decide_eq_decide.mpr (nI_leI (a := 4) (by omega) (by omega))
    rw [e1, e2]
    by_cases y : 4 ≤ v
    · rw [decide_eq_true y]; exact ⟨fun _ => by omega, fun _ => rfl⟩
    · rw [decide_eq_false y]; exact ⟨fun w => absurd w (by decide), fun w => by omega⟩
  · rw [if_neg z] at e
    subst e
    exact ⟨fun _ => by omega, fun _ => by decide⟩
theorem mR_m1 {q : Option Nat} (h : ∀ i, q = some i → i < 2 ^ 30) : mR q = -1 ↔ q = none := by
  cases q with
  | none => exact ⟨fun _ => rfl, fun _ => rfl⟩
  | some i => exact ⟨fun z => absurd z (nI_m1 (h i rfl)), fun z => by cases z⟩
theorem fnd_lt : ∀ {D : List Bod} {r k : Int32} {i j : Nat}, fnd D r k i = some j → j < i + D.length
  | [], r, k, i, j, e => by cases e
  | b :: D, r, k, i, j, e => by
    unfold fnd at e
    by_cases z : nI b.1 = r ∧ nI b.2.1 = k
    · rw [if_pos z] at e
      have := Option.some.inj e
      show j < i + (D.length + 1)
      omega
    · rw [if_neg z] at e
      have := fnd_lt e
      show j < i + (D.length + 1)
      omega
theorem np_ge {tx : Nat → Int32} {n p : Nat} (hp : p ≤ n) : p ≤ np tx n p := by
  rcases Nat.decEq (kd tx n p) 200 with z | z
  · exact Nat.le_of_lt (np_gt hp z)
  · have h0 := (kd_end hp).mp z
    have hs := scan_le isBl tx (n - p) p
    have hk := tkS_ok (tx := tx) hp
    unfold np
    have : p ≤ (tkS tx n p).2.1 := by
      unfold tkS
      generalize scan isBl tx (n - p) p = s at hs ⊢
      split
      · exact hs.1
      · split
        · exact hs.1
        · split
          · exact hs.1
          · exact hs.1
    omega
/-- readBody(draft) -/
theorem s18 {d a n k p : Nat} {tx : Nat → Int32} {D : List Bod} {H G h : Hp} {K : Int32 → Hp → Prop} (B : Bp H) (hB : Byt tx) (hn : n ≤ 240) (c : CL a n k tx H G h p) (Q : PkC G k D) (hlen : (fl D).length ≤ p) (k0 : ∀ G' h' p', bodS tx n D p = (none, p') → CL a n k tx H G' h' p' → K 0 h') (k1 : ∀ G' h' p' b, bodS tx n D p = (some b, p') → CL a n k tx H G' h' p' → PkC G' k (D ++ [b]) → (fl (D ++ [b])).length ≤ p' → p < p' → K 1 h') : CI (d + 36) 18 [vR 2 (some 0), vR 1 (some k)] h K := by
  intro P hP
  have hp : p ≤ n := c.1.2.2
  have e2 : ∀ {g : Hp} {p' : Nat}, TkN G g 0 a n tx p' → jR g 2 0 0 = some 0 := fun T => CL.b ⟨T, c.2⟩ B
  unfold bodS at k0 k1
  refine v18 hP 0 (some k) h (dr_of rfl (s12 c.1 Q (fun c1 => ⟨fun z => absurd rfl z, fun _ => dr_of (e2 c.1) ?_⟩) (fun c1 => ⟨fun _ => ⟨_, rfl, k0 _ _ p (by rw [if_neg (fun z => c1 z.1)]) c⟩, fun z => absurd (by decide) z⟩)))
  refine s79w (by decide) aT0 c.1 (fun c2 => ⟨fun z => absurd rfl z, fun _ => ⟨_, rfl, k0 _ _ p (by rw [if_neg (fun z => c2 z.2)]) c⟩⟩) (fun c2 h1 R1 => ⟨fun _ => dr_of (e2 R1) (s82m (m := 1) R1 (by decide) (s86 ?_)), fun z => absurd (by decide) z⟩)
  rw [if_pos ⟨c1, c2⟩] at k0 k1
  have g1 := np_gt hp (show ¬ kd tx n p = 200 by omega)
  have hp1 : np tx n p ≤ n := R1.2.2
  by_cases c3 : nmN tx n 1 (np tx n p) < 4
  · rw [if_pos c3] at k0 k1
    refine ⟨fun _ => dr_of (e2 R1) (s77n R1 (fun h2 R2 => dr_of (e2 R2) ?_)), fun z => absurd (ru4 rfl |>.mp (Classical.not_not.mp z)) (fun y => y c3)⟩
    have ev : (if nmN tx n 1 (np tx n p) < 10000 then nI (nmN tx n 1 (np tx n p)) else -1) = nI (nmN tx n 1 (np tx n p)) := if_pos (by omega)
    rw [ev]
    refine s79w (by decide) aT1 R2 (fun c4 => ⟨fun z => absurd rfl z, fun _ => ⟨_, rfl, k0 _ _ _ (by rw [if_neg c4]) ⟨R2, c.2⟩⟩⟩) (fun c4 h3 R3 => ⟨fun _ => dr_of (e2 R3) (s81n R3 (by decide) ?_), fun z => absurd (by decide) z⟩)
    rw [if_pos c4] at k0 k1
    rw [aT2]
    unfold kiS
    generalize hp3 : np tx n (np tx n (np tx n p)) = p3 at R3 k0 k1 ⊢
    have hp3n : p3 ≤ n := R3.2.2
    have g2 : np tx n p ≤ np tx n (np tx n p) ∧ np tx n (np tx n p) ≤ p3 := by
      have a1 := (tkS_ok (tx := tx) hp1)
      have b1 := scan_le isBl tx (n - np tx n p) (np tx n p)
      have hp2 : np tx n (np tx n p) ≤ n := R2.2.2
      have x1 := np_ge (tx := tx) hp1
      have x2 := np_ge (tx := tx) hp2
      rw [hp3] at x2
      exact ⟨x1, x2⟩
    by_cases c5 : 9 ≤ kd tx n p3 ∧ kd tx n p3 < 40
    · rw [if_pos c5]
      refine ⟨fun z => absurd z (nI_m1 (by omega)), fun _ => dr_of rfl (s13 (PkS.tk R3 c.2.1) (PkC.tk R3 Q) ?_)⟩
      have hb : ∀ i, fnd D (nI (nmN tx n 1 (np tx n p))) (nI (kd tx n p3 - 9)) 0 = some i → i < 2 ^ 30 := fun i e => by
        have := fnd_lt e
        omega
      refine ⟨fun c6 => dr_of (e2 R3) (s77n R3 (fun h4 R4 => dr_of rfl ?_)), fun c6 => ⟨_, rfl, k0 _ _ _ (if_neg (fun z => c6 ((mR_m1 hb).mpr z.2.2))) ⟨R3, c.2⟩⟩⟩
      have c6 := (mR_m1 hb).mp c6
      rw [if_pos ⟨c5.1, c5.2, c6⟩] at k0 k1
      have g3 := np_gt hp3n (show ¬ kd tx n p3 = 200 by omega)
      refine s14 R4 c.2.1 Q c1 (fun G5 h5 R5 S5 Q5 F5 => ?_)
      have c7 : CL a n k tx H G5 h5 (np tx n p3) := ⟨R5, S5, fr00 c.2.2 F5⟩
      refine dr_of (c7.b B) (s83n (c := 58) R5 hB (by decide) (fun c8 => ⟨fun _ => ⟨_, rfl, k0 _ _ _ (by rw [if_neg c8]) c7⟩, fun z => absurd rfl z⟩) (fun c8 h6 R6 => ⟨fun z => absurd z (by decide), fun _ => ?_⟩))
      rw [if_pos c8] at k0 k1
      have hp4 : np tx n p3 ≤ n := R5.2.2
      have g4 := np_gt hp4 (show ¬ kd tx n (np tx n p3) = 200 by omega)
      have hp5 : np tx n (np tx n p3) ≤ n := R6.2.2
      refine s19 (d := d) (f := 241) B hB hn ⟨⟨R6, S5, fr00 c.2.2 F5⟩, Q5⟩ (by omega) (by omega) (fun G' h' p' e c' => ⟨fun _ => ⟨_, rfl, k0 _ _ p' (by rw [e]) c'⟩, fun z => absurd rfl z⟩) (fun G' h' p' C' y1 y2 c' hl hpp => ⟨fun z => absurd z (by decide), fun _ => dr_of (c'.1.b B) ?_⟩)
      refine s83n (c := 59) c'.1.1 hB (by decide) (fun c9 => ⟨fun _ => ⟨_, rfl, k0 _ _ p' (by rw [y2 c9]) c'.1⟩, fun z => absurd rfl z⟩) (fun c9 h7 R7 => ⟨fun z => absurd z (by decide), fun _ => ⟨_, rfl, k1 _ _ _ _ (by rw [y1 c9]) ⟨R7, c'.1.2⟩ c'.2 ?_ ?_⟩⟩)
      · have hp' : p' ≤ n := c'.1.1.2.2
        have := np_gt hp' (show ¬ kd tx n p' = 200 by omega)
        rw [fl_len]; omega
      · have hp' : p' ≤ n := c'.1.1.2.2
        have := np_gt hp' (show ¬ kd tx n p' = 200 by omega)
        omega
    · rw [if_neg c5]
      exact ⟨fun _ => ⟨_, rfl, k0 _ _ _ (if_neg (fun z => c5 ⟨z.1, z.2.1⟩)) ⟨R3, c.2⟩⟩, fun z => absurd rfl z⟩
  · rw [if_neg c3] at k0
    exact ⟨fun z => absurd ((ru4 rfl).mpr c3) z, fun _ => ⟨_, rfl, k0 _ _ _ rfl ⟨R1, c.2⟩⟩⟩
theorem c6 {d a n k : Nat} {tx : Nat → Int32} {H : Hp} {K : Int32 → Hp → Prop} {P : Nat → List AV → List AV → Hp → Prop} (hP : Cl (Call (d + 36)) 17 (fun v h' => ∃ x, v = some (vI x) ∧ K x h') P) (B : Bp H) (hB : Byt tx) (hn : n ≤ 240) : ∀ (f p : Nat) (D : List Bod) (G h : Hp), f + D.length = 13 → CL a n k tx H G h p → PkC G k D → (fl D).length ≤ p → (∀ G' h' p', pckS tx n f D p = (none, p') → CL a n k tx H G' h' p' → K 0 h') → (∀ G' h' p' D', pckS tx n f D p = (some D', p') → CL a n k tx H G' h' p' → PkC G' k D' → K 1 h') → P 6 [vR 2 (some 0), vR 1 (some k), vI (nI D.length)] [] h
  | 0, p, D, G, h, hfD, c, Q, hlen, k0, k1 => by have := Q.1; omega
  | f + 1, p, D, G, h, hfD, c, Q, hlen, k0, k1 => by
    have h12 := Q.1
    have e2 := c.b B
    have nar : ∀ b : Bool, narrow .boolean (.int (bi b)) = .int (bi b) := by decide
    refine v17_6 hP 0 (some k) (nI D.length) h ⟨fun z => absurd z (nI_ge (b := 240) (by omega) (by omega)), fun _ => dr_of e2 (s78n c.1 ⟨fun z => dr_of e2 (s78n c.1 ⟨nar _, _, rfl, ?_⟩), fun z => ?_⟩)⟩
    · have z : kd tx n p = 200 := Classical.not_not.mp (fun y => z (bi0.mpr y))
      rw [decide_eq_true z]
      exact k1 _ _ p D (by rw [pckS_eq, if_pos z]) c Q
    · have z : ¬ kd tx n p = 200 := bi0.mp (Classical.not_not.mp z)
      refine s18 B hB hn c Q hlen (fun G' h' p' e c' => ⟨fun y => absurd rfl y, fun _ => ⟨_, rfl, k0 _ _ p' (pckS_n z e) c'⟩⟩) (fun G' h' p' b e c' Q' hl hpp => ⟨fun _ => ?_, fun y => absurd (by decide) y⟩)
      have el : (D ++ [b]).length = D.length + 1 := by rw [List.length_append]; rfl
      rw [nI_1, ← el]
      rw [pckS_s z e] at k0 k1
      exact c6 hP B hB hn f p' (D ++ [b]) G' h' (by rw [el]; omega) c' Q' hl k0 k1
/-- fill(draft) -/
theorem s17 {d a n k : Nat} {tx : Nat → Int32} {H h : Hp} {K : Int32 → Hp → Prop} (R : TkN H h 0 a n tx 0) (S : PkS H k) (B : Bp H) (hB : Byt tx) (hn : n ≤ 240) (k0 : ∀ G' h' p', pckS tx n 13 [] 0 = (none, p') → CL a n k tx H G' h' p' → K 0 h') (k1 : ∀ G' h' p' D', pckS tx n 13 [] 0 = (some D', p') → CL a n k tx H G' h' p' → PkC G' k D' → K 1 h') : CI (d + 37) 17 [vR 2 (some 0), vR 1 (some k)] h K := fun P hP => v17 hP 0 (some k) h (dr_of rfl (s11 R S (fun G1 h1 R1 S1 Q1 F1 => c6 hP B hB hn 13 0 [] G1 h1 rfl ⟨R1, S1, F1⟩ Q1 (Nat.le_refl _) k0 k1)))
