/-! THE CLASS's packs: pack k has its rows at pb k .. pb k + 4 -/
def pb (k : Nat) : Nat := if k < 2 then 5 * k else 5 * k + 1
/-- bodies: rule, kind, code -/
abbrev Bod : Type := Nat × Nat × List Nat
def fl (D : List Bod) : List Nat := (D.map (fun b => b.2.2)).flatten
theorem fl_app (D E : List Bod) : fl (D ++ E) = fl D ++ fl E := by
  unfold fl
  rw [List.map_append, List.flatten_append]
theorem fl_one (b : Bod) : fl [b] = b.2.2 := by
  unfold fl
  simp
def PkS (G : Hp) (k : Nat) : Prop := k < 6 ∧ k < jN G 1 ∧ pb k + 5 ≤ jN G 21 ∧ jR G 1 k 2 = some (pb k) ∧ jR G 1 k 3 = some (pb k + 1) ∧ jR G 1 k 4 = some (pb k + 2) ∧ jR G 1 k 5 = some (pb k + 3) ∧ jR G 1 k 6 = some (pb k + 4) ∧ jLen G 21 (pb k) = 12 ∧ jLen G 21 (pb k + 1) = 12 ∧ jLen G 21 (pb k + 2) = 13 ∧ jLen G 21 (pb k + 3) = 12 ∧ jLen G 21 (pb k + 4) = 240
def PkC (G : Hp) (k : Nat) (D : List Bod) : Prop := D.length ≤ 12 ∧ (fl D).length ≤ 240 ∧ jI G 1 k 0 = nI D.length ∧ jI G 1 k 1 = nI (fl D).length ∧ (∀ i, i ≤ D.length → 0 < D.length → jI G 21 (pb k + 2) i = nI (fl (D.take i)).length) ∧ (∀ i b, D[i]? = some b → jI G 21 (pb k) i = nI b.1 ∧ jI G 21 (pb k + 1) i = nI b.2.1 ∧ jI G 21 (pb k + 3) i = nI (b.2.2.count 10008)) ∧ (∀ j x, (fl D)[j]? = some x → jI G 21 (pb k + 4) j = nI x)
/-- what a pack's reading changes -/
def Xp (k : Nat) : Nat → Nat → Nat → Prop := fun t a _ => (t = 1 ∧ a = k) ∨ (t = 21 ∧ pb k ≤ a ∧ a < pb k + 5)
theorem PkS.of {G G' : Hp} {k : Nat} (S : PkS G k) (e1 : jR G' = jR G) (e2 : jLen G' = jLen G) (e3 : jN G' = jN G) : PkS G' k := by
  unfold PkS
  rw [e1, e2, e3]
  exact S
theorem tk_i {D : List Bod} {b : Bod} {i : Nat} (h : i ≤ D.length) : (D ++ [b]).take i = D.take i := List.take_append_of_le_length h
/-- clear() -/
theorem s11 {d n a p k : Nat} {tx : Nat → Int32} {G h : Hp} {K : Hp → Prop} (R : TkN G h 0 a n tx p) (S : PkS G k) (kk : ∀ G' h', TkN G' h' 0 a n tx p → PkS G' k → PkC G' k [] → Fr (Xp k) 0 0 G G' → K h') : CV (d + 1) 11 [vR 1 (some k)] h K := by
  intro P hP
  refine v11 hP k h ⟨rfl, kk _ _ ((R.wI (t := 1) k 0 0 (by decide) (by decide)).wI (t := 1) k 1 0 (by decide) (by decide)) (S.of rfl rfl rfl) ⟨by decide, by decide, ?_, jI_same _ _ _ _ _, ?_, ?_, ?_⟩ (((Fr.refl _ G).wI 0 (Or.inr (Or.inl ⟨rfl, rfl⟩))).wI 0 (Or.inr (Or.inl ⟨rfl, rfl⟩)))⟩
  · rw [jI_k (by decide)]; exact jI_same _ _ _ _ _
  · intro i _ h0; exact absurd h0 (by decide)
  · intro i b e; cases e
  · intro j x e; cases e
/-- isFull() -/
theorem s12 {d n a p k : Nat} {tx : Nat → Int32} {G h : Hp} {D : List Bod} {K : Int32 → Hp → Prop} (R : TkN G h 0 a n tx p) (Q : PkC G k D) (k0 : D.length < 12 → K 0 h) (k1 : ¬ D.length < 12 → K 1 h) : CI (d + 1) 12 [vR 1 (some k)] h K := by
  intro P hP
  have e : jI h 1 k 0 = nI D.length := by rw [R.I (by decide)]; exact Q.2.2.1
  have h12 := Q.1
  refine v12 hP k h ⟨fun c => ⟨_, rfl, k0 ?_⟩, fun c => ⟨_, rfl, k1 ?_⟩⟩
  · rw [e] at c; exact (nI_ltI (b := 12) (by omega) (by omega)).mp c
  · intro z; exact c (by rw [e]; exact nI_lt (b := 12) z (by omega))
/-- addStep(x) -/
theorem s15 {d n a p k x : Nat} {tx : Nat → Int32} {G h : Hp} {D : List Bod} {b : Bod} {K : Hp → Prop} (R : TkN G h 0 a n tx p) (S : PkS G k) (Q : PkC G k (D ++ [b])) (hx : x < 30000) (hlt : (fl (D ++ [b])).length < 240) (kk : ∀ G' h', TkN G' h' 0 a n tx p → PkS G' k → PkC G' k (D ++ [(b.1, b.2.1, b.2.2 ++ [x])]) → Fr (Xp k) 0 0 G G' → K h') : CV (d + 1) 15 [vR 1 (some k), vI (nI x)] h K := by
  intro P hP
  obtain ⟨s0, s1, s2, r2, r3, r4, r5, r6, l2, l3, l4, l5, l6⟩ := id S
  obtain ⟨q1, q2, q3, q4, q5, q6, q7⟩ := Q
  have el : (D ++ [b]).length = D.length + 1 := by rw [List.length_append]; rfl
  rw [el] at q1 q3 q5
  have u0 : jI h 1 k 0 = nI (D.length + 1) := by rw [R.I (by decide)]; exact q3
  have u1 : jI h 1 k 1 = nI (fl (D ++ [b])).length := by rw [R.I (by decide)]; exact q4
  have iu : ix (nI (fl (D ++ [b])).length) = (fl (D ++ [b])).length := nI_clamp (by omega)
  have ib : ix (nI (D.length + 1)) = D.length + 1 := nI_clamp (by omega)
  have t1 : ∀ (g : Hp) (a k v) (c j : Nat), jI (wI g 21 a k v) 1 c j = jI g 1 c j := fun g a k v c j => jI_t (by decide)
  have t2 : ∀ (g : Hp) (c : Nat) (v), jI (wI g 1 c 1 v) 1 c 0 = jI g 1 c 0 := fun g c v => jI_k (by decide)
  generalize hL : (fl (D ++ [b])).length = L at *
  have R3 := ((R.wI (t := 21) (pb k + 4) L (nI x) (by decide) (by decide)).wI (t := 1) k 1 (nI (L + 1)) (by decide) (by decide)).wI (t := 21) (pb k + 2) (D.length + 1) (nI (L + 1)) (by decide) (by decide)
  have F3 : Fr (Xp k) 0 0 G (wI (wI (wI G 21 (pb k + 4) L (nI x)) 1 k 1 (nI (L + 1))) 21 (pb k + 2) (D.length + 1) (nI (L + 1))) := (((Fr.refl _ G).wI _ (Or.inr (Or.inr ⟨rfl, by omega, by omega⟩))).wI _ (Or.inr (Or.inl ⟨rfl, rfl⟩))).wI _ (Or.inr (Or.inr ⟨rfl, by omega, by omega⟩))
  have fD : fl (D ++ [(b.1, b.2.1, b.2.2 ++ [x])]) = fl (D ++ [b]) ++ [x] := by
    rw [fl_app, fl_app, fl_one, fl_one, List.append_assoc]
  have lD : (D ++ [(b.1, b.2.1, b.2.2 ++ [x])]).length = D.length + 1 := by rw [List.length_append]; rfl
  have lf : (fl (D ++ [(b.1, b.2.1, b.2.2 ++ [x])])).length = L + 1 := by rw [fD, List.length_append, hL]; rfl
  have fin : ∀ G', (∀ a j, a ≠ pb k + 3 → jI G' 21 a j = jI (wI (wI (wI G 21 (pb k + 4) L (nI x)) 1 k 1 (nI (L + 1))) 21 (pb k + 2) (D.length + 1) (nI (L + 1))) 21 a j) → (∀ j, jI G' 1 k j = jI (wI (wI (wI G 21 (pb k + 4) L (nI x)) 1 k 1 (nI (L + 1))) 21 (pb k + 2) (D.length + 1) (nI (L + 1))) 1 k j) → (∀ i, i < D.length → jI G' 21 (pb k + 3) i = jI G 21 (pb k + 3) i) → jI G' 21 (pb k + 3) D.length = nI ((b.2.2 ++ [x]).count 10008) → PkC G' k (D ++ [(b.1, b.2.1, b.2.2 ++ [x])]) := by
    intro G' g1 g2 g3 g4
    refine ⟨by rw [lD]; omega, by rw [lf]; omega, ?_, ?_, fun i hi h0 => ?_, fun i c e => ?_, fun j y e => ?_⟩
    · rw [g2, t1, t2, t1, lD]; exact q3
    · rw [g2, t1, jI_same, lf]
    · rw [lD] at hi
      rw [g1 _ _ (by omega)]
      by_cases z : i = D.length + 1
      · rw [z, jI_same, List.take_of_length_le (by rw [lD]; exact Nat.le_refl _), lf]
      · rw [jI_k z, jI_t (by decide), jI_a (by omega), q5 i hi (by omega), tk_i (by omega), tk_i (by omega)]
    · by_cases z : i = D.length
      · subst z
        rw [List.getElem?_append_right (Nat.le_refl _), Nat.sub_self] at e
        have e := Option.some.inj e
        subst e
        have o := q6 D.length b (by rw [List.getElem?_append_right (Nat.le_refl _), Nat.sub_self]; rfl)
        refine ⟨?_, ?_, g4⟩
        · rw [g1 _ _ (by omega), jI_a (by omega), jI_t (by decide), jI_a (by omega)]; exact o.1
        · rw [g1 _ _ (by omega), jI_a (by omega), jI_t (by decide), jI_a (by omega)]; exact o.2.1
      · have hi : i < D.length := by
          rcases Nat.lt_or_ge i (D.length + 1) with y | y
          · omega
          · rw [List.getElem?_eq_none (by rw [lD]; exact y)] at e; cases e
        rw [List.getElem?_append_left hi] at e
        have o := q6 i c (by rw [List.getElem?_append_left hi]; exact e)
        refine ⟨?_, ?_, ?_⟩
        · rw [g1 _ _ (by omega), jI_a (by omega), jI_t (by decide), jI_a (by omega)]; exact o.1
        · rw [g1 _ _ (by omega), jI_a (by omega), jI_t (by decide), jI_a (by omega)]; exact o.2.1
        · rw [g3 i hi]; exact o.2.2
    · rw [g1 _ _ (by omega), jI_a (by omega), jI_t (by decide)]
      rw [fD] at e
      by_cases z : j = L
      · subst z
        rw [List.getElem?_append_right (by omega), hL, Nat.sub_self] at e
        have e := Option.some.inj e
        rw [jI_same, ← e]
      · have hj : j < L := by
          rcases Nat.lt_or_ge j (L + 1) with y | y
          · omega
          · rw [List.getElem?_eq_none (by rw [List.length_append, hL]; exact y)] at e; cases e
        rw [List.getElem?_append_left (by omega)] at e
        rw [jI_k z]
        exact q7 j y e
  have dr4 : ∀ (g : Hp), jR g = jR h → jR g 1 k 4 = some (pb k + 2) := fun g e => by rw [e, R.R]; exact r4
  have dr5 : ∀ (g : Hp), jR g = jR h → jR g 1 k 5 = some (pb k + 3) := fun g e => by rw [e, R.R]; exact r5
  refine v15 hP k (nI x) h ?_
  rw [u1, u0]
  refine ⟨fun c => absurd c (nI_ge (b := 240) (by omega) (by omega)), fun _ => ⟨fun c => absurd c (nI_nle (by omega) (by omega)), fun _ => dr_of (by rw [R.R]; exact r6) ?_⟩⟩
  rw [iu, t1, u1, nI_1]
  refine ⟨by rw [R.len, l6]; exact vp_in_nI (by omega) (by decide), dr_of (dr4 _ rfl) ?_⟩
  rw [t2, t1, u0, ib, jI_same]
  refine ⟨by show vp_in _ (jLen h 21 (pb k + 2)); rw [R.len, l4]; exact vp_in_nI (by omega) (by decide), fun h3 e3 => ?_⟩
  rw [← e3] at R3
  have e30 : jI h3 1 k 0 = nI (D.length + 1) := by rw [e3, t1, t2, t1]; exact u0
  have nR : jR h3 = jR h := by rw [e3]; rfl
  have nL : jLen h3 = jLen h := by rw [e3]; rfl
  have old : ∀ i, i ≤ D.length → jI (wI (wI (wI G 21 (pb k + 4) L (nI x)) 1 k 1 (nI (L + 1))) 21 (pb k + 2) (D.length + 1) (nI (L + 1))) 21 (pb k + 3) i = jI G 21 (pb k + 3) i := fun i hi => by rw [jI_a (by omega), jI_t (by decide), jI_a (by omega)]
  have oD := q6 D.length b (by rw [List.getElem?_append_right (Nat.le_refl _), Nat.sub_self]; rfl)
  refine ⟨fun c => ⟨rfl, kk _ _ R3 (S.of rfl rfl rfl) (fin _ (fun _ _ _ => rfl) (fun _ => rfl) (fun i hi => old i (by omega)) ?_) F3⟩, fun c => dr_of (dr5 _ nR) ?_⟩
  · have c1 : ¬ x = 10008 := fun z => c (by rw [z]; rfl)
    rw [old _ (Nat.le_refl _), oD.2.2, List.count_append, List.count_singleton]
    have : (x == 10008) = false := by rw [beq_eq_false_iff_ne]; exact c1
    rw [this]; rfl
  · have c1 : x = 10008 := (nI_eq (a := x) (b := 10008) (by omega) (by omega)).mp (Classical.not_not.mp c)
    have e1 : nI (D.length + 1) - 1 = nI D.length := nI_pred _
    have i1 : ix (nI D.length) = D.length := nI_clamp (by omega)
    have vv : vp_in (nI D.length) (jLen h3 21 (pb k + 3)) := by rw [nL, R.len, l5]; exact vp_in_nI (by omega) (by decide)
    rw [e30, e1, i1]
    have R4 := R3.wI (t := 21) (pb k + 3) D.length (nI (b.2.2.count 10008 + 1)) (by decide) (by decide)
    have ev : jI h3 21 (pb k + 3) D.length + 1 = nI (b.2.2.count 10008 + 1) := by
      rw [R3.I (by decide), old _ (Nat.le_refl _), oD.2.2, nI_1]
    rw [ev]
    refine ⟨vv, dr_of (dr5 _ nR) ⟨vv, rfl, kk _ _ R4 (S.of rfl rfl rfl) (fin _ (fun a j z => jI_a z) (fun j => jI_t (by decide)) (fun i hi => ?_) ?_) (F3.wI _ (Or.inr (Or.inr ⟨rfl, by omega, by omega⟩)))⟩⟩
    · rw [jI_k (by omega), old i (by omega)]
    · rw [jI_same, List.count_append, c1]
      rfl
