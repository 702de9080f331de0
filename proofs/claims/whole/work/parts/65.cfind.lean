/-- the number of a body for a rule and a kind -/
def fnd : List Bod → Int32 → Int32 → Nat → Option Nat
  | [], _, _, _ => none
  | b :: D, r, k, i => if nI b.1 = r ∧ nI b.2.1 = k then some i else fnd D r k (i + 1)
theorem c13 {d k : Nat} {l1 l2 : Int32} {h : Hp} {D : List Bod} {K : Int32 → Hp → Prop} {P : Nat → List AV → List AV → Hp → Prop} (hP : Cl (Call d) 13 (fun v h' => ∃ x, v = some (vI x) ∧ K x h') P) (hl : D.length ≤ 12) (u0 : jI h 1 k 0 = nI D.length) (r2 : jR h 1 k 2 = some (pb k)) (r3 : jR h 1 k 3 = some (pb k + 1)) (l2' : jLen h 21 (pb k) = 12) (l3' : jLen h 21 (pb k + 1) = 12) (q : ∀ i b, D[i]? = some b → jI h 21 (pb k) i = nI b.1 ∧ jI h 21 (pb k + 1) i = nI b.2.1) : ∀ (E : List Bod) (i : Nat), D.drop i = E → i ≤ D.length → K (mR (fnd E l1 l2 i)) h → P 2 [vR 1 (some k), vI l1, vI l2, vI (nI i)] [] h
  | [], i, e, hi, kk => by
    have : D.length ≤ i := by
      have := congrArg List.length e
      rw [List.length_drop] at this
      have e0 : ([] : List Bod).length = 0 := rfl
      omega
    refine v13_2 hP k l1 l2 (nI i) h ⟨fun _ => ⟨_, rfl, kk⟩, fun c => absurd ?_ c⟩
    rw [u0]; exact nI_le this (by omega)
  | b :: E, i, e, hi, kk => by
    have hlt : i < D.length := by
      rcases Nat.lt_or_ge i D.length with z | z
      · exact z
      · rw [List.drop_eq_nil_of_le z] at e; cases e
    have eb : D[i]? = some b := by
      have := congrArg (fun l => l[0]?) e
      simp only [List.getElem?_drop, Nat.add_zero, List.getElem?_cons_zero] at this
      exact this
    have ed : D.drop (i + 1) = E := by
      have := congrArg List.tail e
      rw [List.tail_drop] at this
      exact this
    have ii : ix (nI i) = i := nI_clamp (by omega)
    have qb := q i b eb
    unfold fnd at kk
    refine v13_2 hP k l1 l2 (nI i) h ⟨fun c => absurd (by rw [u0] at c; exact c) (nI_ge hlt (by omega)), fun _ => dr_of r2 ⟨by rw [l2']; exact vp_in_nI (by omega) (by decide), fun c => ?_, fun c => dr_of r3 ⟨by rw [l3']; exact vp_in_nI (by omega) (by decide), fun c2 => ?_, fun c2 => ⟨_, rfl, ?_⟩⟩⟩⟩
    · rw [ii, qb.1] at c
      rw [if_neg (fun z => c z.1)] at kk
      rw [nI_1]
      exact c13 hP hl u0 r2 r3 l2' l3' q E (i + 1) ed hlt kk
    · rw [ii, qb.2] at c2
      rw [if_neg (fun z => c2 z.2)] at kk
      rw [nI_1]
      exact c13 hP hl u0 r2 r3 l2' l3' q E (i + 1) ed hlt kk
    · rw [ii, qb.1] at c
      rw [ii, qb.2] at c2
      rw [if_pos ⟨Classical.not_not.mp c, Classical.not_not.mp c2⟩] at kk
      exact kk
/-- find(rule, kind), in any heap -/
theorem s13 {d k : Nat} {l1 l2 : Int32} {h : Hp} {D : List Bod} {K : Int32 → Hp → Prop} (S : PkS h k) (Q : PkC h k D) (kk : K (mR (fnd D l1 l2 0)) h) : CI (d + 1) 13 [vR 1 (some k), vI l1, vI l2] h K := by
  intro P hP
  obtain ⟨s0, s1, s2, r2, r3, r4, r5, r6, n2, n3, n4, n5, n6⟩ := S
  obtain ⟨q1, q2, q3, q4, q5, q6, q7⟩ := Q
  exact v13 hP k l1 l2 h (c13 hP q1 q3 r2 r3 n2 n3 (fun i b e => ⟨(q6 i b e).1, (q6 i b e).2.1⟩) D 0 rfl (Nat.zero_le _) kk)
theorem PkC.tk {G h : Hp} {n a p k : Nat} {tx : Nat → Int32} {D : List Bod} (R : TkN G h 0 a n tx p) (Q : PkC G k D) : PkC h k D := by
  obtain ⟨q1, q2, q3, q4, q5, q6, q7⟩ := Q
  refine ⟨q1, q2, ?_, ?_, fun i h1 h2 => ?_, fun i b e => ?_, fun j x e => ?_⟩
  · rw [R.I (by decide)]; exact q3
  · rw [R.I (by decide)]; exact q4
  · rw [R.I (by decide)]; exact q5 i h1 h2
  · rw [R.I (by decide), R.I (by decide), R.I (by decide)]; exact q6 i b e
  · rw [R.I (by decide)]; exact q7 j x e
theorem PkS.tk {G h : Hp} {n a p k : Nat} {tx : Nat → Int32} (R : TkN G h 0 a n tx p) (S : PkS G k) : PkS h k := S.of R.R R.len R.N
theorem fl_nil (D : List Bod) (r k : Nat) : fl (D ++ [(r, k, [])]) = fl D := by
  rw [fl_app, fl_one, List.append_nil]
/-- open(rule, kind) -/
theorem s14 {d n a p k r kd2 : Nat} {tx : Nat → Int32} {G h : Hp} {D : List Bod} {K : Hp → Prop} (R : TkN G h 0 a n tx p) (S : PkS G k) (Q : PkC G k D) (h12 : D.length < 12) (kk : ∀ G' h', TkN G' h' 0 a n tx p → PkS G' k → PkC G' k (D ++ [(r, kd2, [])]) → Fr (Xp k) 0 0 G G' → K h') : CV (d + 1) 14 [vR 1 (some k), vI (nI r), vI (nI kd2)] h K := by
  intro P hP
  obtain ⟨s0, s1, s2, r2, r3, r4, r5, r6, l2, l3, l4, l5, l6⟩ := id S
  obtain ⟨q1, q2, q3, q4, q5, q6, q7⟩ := Q
  have u0 : jI h 1 k 0 = nI D.length := by rw [R.I (by decide)]; exact q3
  have u1 : jI h 1 k 1 = nI (fl D).length := by rw [R.I (by decide)]; exact q4
  have ib : ix (nI D.length) = D.length := nI_clamp (by omega)
  have ib1 : ix (nI (D.length + 1)) = D.length + 1 := nI_clamp (by omega)
  have t1 : ∀ (g : Hp) (a k v) (c j : Nat), jI (wI g 21 a k v) 1 c j = jI g 1 c j := fun g a k v c j => jI_t (by decide)
  generalize hL : (fl D).length = L at *
  have R3 := (((((R.wI (t := 21) (pb k) D.length (nI r) (by decide) (by decide)).wI (t := 21) (pb k + 1) D.length (nI kd2) (by decide) (by decide)).wI (t := 21) (pb k + 3) D.length 0 (by decide) (by decide)).wI (t := 21) (pb k + 2) D.length (nI L) (by decide) (by decide)).wI (t := 21) (pb k + 2) (D.length + 1) (nI L) (by decide) (by decide)).wI (t := 1) k 0 (nI (D.length + 1)) (by decide) (by decide)
  have F3 : Fr (Xp k) 0 0 G (wI (wI (wI (wI (wI (wI G 21 (pb k) D.length (nI r)) 21 (pb k + 1) D.length (nI kd2)) 21 (pb k + 3) D.length 0) 21 (pb k + 2) D.length (nI L)) 21 (pb k + 2) (D.length + 1) (nI L)) 1 k 0 (nI (D.length + 1))) := ((((((Fr.refl _ G).wI _ (Or.inr (Or.inr ⟨rfl, by omega, by omega⟩))).wI _ (Or.inr (Or.inr ⟨rfl, by omega, by omega⟩))).wI _ (Or.inr (Or.inr ⟨rfl, by omega, by omega⟩))).wI _ (Or.inr (Or.inr ⟨rfl, by omega, by omega⟩))).wI _ (Or.inr (Or.inr ⟨rfl, by omega, by omega⟩))).wI _ (Or.inr (Or.inl ⟨rfl, rfl⟩))
  have lD : (D ++ [(r, kd2, [])]).length = D.length + 1 := by rw [List.length_append]; rfl
  have C3 : PkC (wI (wI (wI (wI (wI (wI G 21 (pb k) D.length (nI r)) 21 (pb k + 1) D.length (nI kd2)) 21 (pb k + 3) D.length 0) 21 (pb k + 2) D.length (nI L)) 21 (pb k + 2) (D.length + 1) (nI L)) 1 k 0 (nI (D.length + 1))) k (D ++ [(r, kd2, [])]) := by
    refine ⟨by rw [lD]; omega, by rw [fl_nil]; omega, ?_, ?_, fun i hi h0 => ?_, fun i c e => ?_, fun j y e => ?_⟩
    · rw [jI_same, lD]
    · rw [jI_k (by decide), t1, t1, t1, t1, t1, fl_nil, hL]; exact q4
    · rw [lD] at hi
      rw [jI_t (by decide)]
      by_cases z : i = D.length + 1
      · rw [z, jI_same, List.take_of_length_le (by rw [lD]; exact Nat.le_refl _), fl_nil, hL]
      · rw [jI_k z, tk_i (by omega)]
        by_cases z2 : i = D.length
        · rw [z2, jI_same, List.take_of_length_le (Nat.le_refl _), hL]
        · rw [jI_k z2, jI_a (by omega), jI_a (by omega), jI_a (by omega)]
          exact q5 i (by omega) (by omega)
    · by_cases z : i = D.length
      · subst z
        rw [List.getElem?_append_right (Nat.le_refl _), Nat.sub_self] at e
        have e := Option.some.inj e
        subst e
        refine ⟨?_, ?_, ?_⟩
        · rw [jI_t (by decide), jI_a (by omega), jI_a (by omega), jI_a (by omega), jI_a (by omega), jI_same]
        · rw [jI_t (by decide), jI_a (by omega), jI_a (by omega), jI_a (by omega), jI_same]
        · rw [jI_t (by decide), jI_a (by omega), jI_a (by omega), jI_same]; rfl
      · have hi : i < D.length := by
          rcases Nat.lt_or_ge i (D.length + 1) with y | y
          · omega
          · rw [List.getElem?_eq_none (by rw [lD]; exact y)] at e; cases e
        rw [List.getElem?_append_left hi] at e
        have o := q6 i c e
        refine ⟨?_, ?_, ?_⟩
        · rw [jI_t (by decide), jI_a (by omega), jI_a (by omega), jI_a (by omega), jI_a (by omega), jI_k z]; exact o.1
        · rw [jI_t (by decide), jI_a (by omega), jI_a (by omega), jI_a (by omega), jI_k z, jI_a (by omega)]; exact o.2.1
        · rw [jI_t (by decide), jI_a (by omega), jI_a (by omega), jI_k z, jI_a (by omega), jI_a (by omega)]; exact o.2.2
    · rw [fl_nil] at e
      rw [jI_t (by decide), jI_a (by omega), jI_a (by omega), jI_a (by omega), jI_a (by omega), jI_a (by omega)]
      exact q7 j y e
  have rr : ∀ (g : Hp) (i v : Nat), jR g = jR h → jR G 1 k i = some v → jR g 1 k i = some v := fun g i v e e2 => by rw [e, R.R]; exact e2
  have vv : ∀ (g : Hp) (b v : Nat), jLen g = jLen h → jLen G 21 b = v → D.length < v → v < 2 ^ 20 → vp_in (nI D.length) (jLen g 21 b) := fun g b v e e2 h1 h2 => by rw [e, R.len, e2]; exact vp_in_nI h1 (by omega)
  refine v14 hP k (nI r) (nI kd2) h ?_
  rw [u0]
  refine ⟨fun c => absurd c (nI_ge (b := 12) (by omega) (by omega)), fun _ => dr_of (rr _ _ _ rfl r2) ⟨vv _ _ _ rfl l2 (by omega) (by decide), dr_of (rr _ _ _ rfl r3) ?_⟩⟩
  rw [t1, u0, ib]
  refine ⟨vv _ _ _ rfl l3 (by omega) (by decide), dr_of (rr _ _ _ rfl r5) ?_⟩
  rw [t1, t1, u0, ib]
  refine ⟨vv _ _ _ rfl l5 (by omega) (by decide), fun h4 e4 => ?_⟩
  have n4 : jR h4 = jR h := by rw [e4]; rfl
  have m4 : jLen h4 = jLen h := by rw [e4]; rfl
  have w0 : jI h4 1 k 0 = nI D.length := by rw [e4, t1, t1, t1]; exact u0
  have w1 : jI h4 1 k 1 = nI L := by rw [e4, t1, t1, t1]; exact u1
  rw [← e4] at R3
  rw [w0, w1, ib]
  refine dr_of (rr _ _ _ n4 r4) ⟨vv _ _ _ m4 l4 (by omega) (by decide), dr_of (rr _ _ _ n4 r4) ?_⟩
  rw [t1, t1, w0, w1, nI_1, ib1]
  refine ⟨by show vp_in _ (jLen h4 21 (pb k + 2)); rw [m4, R.len, l4]; exact vp_in_nI (by omega) (by decide), fun h7 e7 => ?_⟩
  rw [← e7] at R3
  have z0 : jI h7 1 k 0 = nI D.length := by rw [e7, t1, t1]; exact w0
  rw [z0, nI_1]
  exact ⟨rfl, kk _ _ R3 (S.of rfl rfl rfl) C3 F3⟩
