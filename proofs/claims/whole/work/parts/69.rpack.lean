/-! THE REFERENCE's packs -/
def EqX (X : Nat → Nat → Nat → Prop) (H G : Hp) : Prop := jN G = jN H ∧ jLen G = jLen H ∧ jR G = jR H ∧ jL G = jL H ∧ jC G = jC H ∧ jZ G = jZ H ∧ ∀ t a k, ¬ X t a k → jI G t a k = jI H t a k
theorem EqX.refl (X : Nat → Nat → Nat → Prop) (H : Hp) : EqX X H H := ⟨rfl, rfl, rfl, rfl, rfl, rfl, fun _ _ _ _ => rfl⟩
theorem EqX.wI {X : Nat → Nat → Nat → Prop} {H G : Hp} (E : EqX X H G) {t a k : Nat} (v : Int32) (h : X t a k) : EqX X H (_root_.Jvm.Pilot.CHeraldDeskLaw_law_r4028_bc851c.wI G t a k v) := by
  obtain ⟨e1, e2, e3, e4, e5, e6, e7⟩ := E
  refine ⟨e1, e2, e3, e4, e5, e6, fun t' a' k' hX => ?_⟩
  rw [← e7 t' a' k' hX]
  exact if_neg (fun e => hX (by rw [e.1, e.2.1, e.2.2]; exact h))
theorem EqX.trans {X : Nat → Nat → Nat → Prop} {H G J : Hp} (E : EqX X H G) (F : EqX X G J) : EqX X H J := by
  obtain ⟨e1, e2, e3, e4, e5, e6, e7⟩ := E
  obtain ⟨f1, f2, f3, f4, f5, f6, f7⟩ := F
  exact ⟨f1.trans e1, f2.trans e2, f3.trans e3, f4.trans e4, f5.trans e5, f6.trans e6, fun t a k h => (f7 t a k h).trans (e7 t a k h)⟩
theorem EqX.sh {X : Nat → Nat → Nat → Prop} {H G : Hp} (E : EqX X H G) (S : RSh H) : RSh G := S.of E.2.2.1 E.2.1
theorem rtH_w11 (H : Hp) (o : Nat) (b vl t x dg : Int32) (hd tl : Int64) {k : Nat} (v : Int32) (hk : 10 < k) : wI (rtH H o b vl t x dg hd tl) 11 o k v = rtH (wI H 11 o k v) o b vl t x dg hd tl := by
  refine Hp_ext rfl rfl ?_ rfl rfl rfl rfl
  rw [I_wI, rtH_I, rtH_I, I_wI, up3_comm _ 11 o 10 k _ _ (by omega), up3_comm _ 11 o 6 k _ _ (by omega), up3_comm _ 11 o 4 k _ _ (by omega), up3_comm _ 11 o 7 k _ _ (by omega), up3_comm _ 11 o 5 k _ _ (by omega)]
theorem RtN.w11 {H h : Hp} {o a n p : Nat} {tx : Nat → Int32} (R : RtN H h o a n tx p) {k : Nat} (v : Int32) (hk : 10 < k) : RtN (_root_.Jvm.Pilot.CHeraldDeskLaw_law_r4028_bc851c.wI H 11 o k v) (_root_.Jvm.Pilot.CHeraldDeskLaw_law_r4028_bc851c.wI h 11 o k v) o a n tx p := by
  obtain ⟨⟨b0, vl, tk, x, dg, hd, tl, e⟩, ⟨t1, t2, t3, t4, t5⟩, hp, hv⟩ := R
  refine ⟨⟨b0, vl, tk, x, dg, hd, tl, by rw [e, rtH_w11 _ _ _ _ _ _ _ _ _ _ hk]⟩, ⟨t1, ?_, t3, t4, fun j hj => ?_⟩, hp, ?_⟩
  · rw [jI_k (by omega)]; exact t2
  · rw [jI_t (by decide)]; exact t5 j hj
  · rw [jI_k (by omega), jI_k (by omega), jI_k (by omega), jI_k (by omega), jI_k (by omega)]; exact hv
def chC (s : Nat) : Int32 := if s = 0 then 43 else if s = 1 then 45 else if s = 2 then 42 else if s = 3 then 61 else if s = 4 then 60 else if s = 5 then 62 else 40
/-- the reference's operation of a step -/
def opN (x : Nat) : Int32 := if x < 10000 then 1 else if x < 20000 then nI (x - 10000 + 2) else chC (x - 20000)
/-- the pack o of the reference has the bodies D; the first m of them are ended -/
def RpG (G : Hp) (o : Nat) (D : List Bod) (m : Nat) : Prop := D.length ≤ 12 ∧ (fl D).length ≤ 240 ∧ jI G 21 4 o = nI D.length ∧ jI G 21 5 o = nI (fl D).length ∧ (∀ i b, D[i]? = some b → jI G 21 6 (12 * o + i) = nI b.1 ∧ jI G 21 7 (12 * o + i) = nI b.2.1 ∧ jI G 21 8 (12 * o + i) = nI (fl (D.take i)).length ∧ (i < m → jI G 21 9 (12 * o + i) = nI (fl (D.take (i + 1))).length)) ∧ (∀ j x, (fl D)[j]? = some x → jI G 21 10 (240 * o + j) = opN x ∧ (x < 10000 → jI G 21 11 (240 * o + j) = nI x))
def cdH (h : Hp) (o L : Nat) (w v : Int32) : Hp := wI (wI (wI h 21 10 (240 * o + L) w) 21 11 (240 * o + L) v) 21 5 o (nI (L + 1))
theorem x240 (o L : Nat) : (240 : Int32) * nI o + nI L = nI (240 * o + L) := by
  show nI 240 * nI o + nI L = _
  rw [pk_mul, nI_add]
theorem x12 (o L : Nat) : (12 : Int32) * nI o + nI L = nI (12 * o + L) := by
  show nI 12 * nI o + nI L = _
  rw [pk_mul, nI_add]
/-- code(o, what, v) -/
theorem s116 {d o L : Nat} {w v : Int32} {h : Hp} {K : Hp → Prop} (S : RSh h) (ho : o < 6) (hL : jI h 21 5 o = nI L) (hlt : L < 240) (k : K (cdH h o L w v)) : CV (d + 1) 116 [vR 11 (some 0), vI (nI o), vI w, vI v] h K := by
  intro P hP
  have io : ix (nI o) = o := nI_clamp (by omega)
  have iL : ix (nI (240 * o + L)) = 240 * o + L := nI_clamp (by omega)
  have v6 : ∀ {g : Hp}, jLen g 21 5 = 6 → vp_in (nI o) (jLen g 21 5) := fun e => by rw [e]; exact vp_in_nI ho (by decide)
  have v1 : ∀ {g : Hp} {i : Nat}, jLen g 21 i = 1440 → vp_in (nI (240 * o + L)) (jLen g 21 i) := fun e => by rw [e]; exact vp_in_nI (by omega) (by decide)
  refine v116 hP 0 (nI o) w v h (dr_of S.r19 ?_)
  rw [io, hL, x240, iL]
  refine ⟨v6 S.n19, dr_of S.r24 ⟨v1 S.n24, dr_of S.r19 ?_⟩⟩
  rw [jI_a (by decide), hL, x240, iL]
  refine ⟨v6 S.n19, dr_of S.r25 ⟨v1 S.n25, fun h5 e5 => ?_⟩⟩
  have S5 : RSh h5 := by rw [e5]; exact S.of rfl rfl
  have hL5 : jI h5 21 5 o = nI L := by rw [e5, jI_a (by decide), jI_a (by decide)]; exact hL
  refine dr_of S5.r19 ⟨v6 S5.n19, dr_of S5.r19 ⟨v6 S5.n19, rfl, ?_⟩⟩
  rw [hL5, nI_1, e5]
  exact k
theorem RpG.code {G : Hp} {o m x : Nat} {D : List Bod} {b : Bod} {v : Int32} (Q : RpG G o (D ++ [b]) m) (hm : m ≤ D.length) (hlt : (fl (D ++ [b])).length < 240) (hv : x < 10000 → v = nI x) : RpG (cdH G o (fl (D ++ [b])).length (opN x) v) o (D ++ [(b.1, b.2.1, b.2.2 ++ [x])]) m := by
  obtain ⟨q1, q2, q3, q4, q5, q6⟩ := Q
  have el : (D ++ [b]).length = D.length + 1 := by rw [List.length_append]; rfl
  have lD : (D ++ [(b.1, b.2.1, b.2.2 ++ [x])]).length = D.length + 1 := by rw [List.length_append]; rfl
  have fD : fl (D ++ [(b.1, b.2.1, b.2.2 ++ [x])]) = fl (D ++ [b]) ++ [x] := by
    rw [fl_app, fl_app, fl_one, fl_one, List.append_assoc]
  generalize hL : (fl (D ++ [b])).length = L at *
  have lf : (fl (D ++ [(b.1, b.2.1, b.2.2 ++ [x])])).length = L + 1 := by rw [fD, List.length_append, hL]; rfl
  unfold cdH
  refine ⟨by rw [lD]; omega, by rw [lf]; omega, ?_, ?_, fun i c e => ?_, fun j y e => ?_⟩
  · rw [jI_a (by decide), jI_a (by decide), jI_a (by decide), lD, ← el]; exact q3
  · rw [jI_same, lf]
  · rw [jI_a (by decide), jI_a (by decide), jI_a (by decide), jI_a (by decide), jI_a (by decide), jI_a (by decide), jI_a (by decide), jI_a (by decide), jI_a (by decide), jI_a (by decide), jI_a (by decide), jI_a (by decide)]
    by_cases z : i = D.length
    · subst z
      rw [List.getElem?_append_right (Nat.le_refl _), Nat.sub_self] at e
      have e := Option.some.inj e
      subst e
      have o2 := q5 D.length b (by rw [List.getElem?_append_right (Nat.le_refl _), Nat.sub_self]; rfl)
      refine ⟨o2.1, o2.2.1, ?_, fun y => by omega⟩
      rw [tk_i (Nat.le_refl _)]
      rw [tk_i (Nat.le_refl _)] at o2
      exact o2.2.2.1
    · have hi : i < D.length := by
        rcases Nat.lt_or_ge i (D.length + 1) with y | y
        · omega
        · rw [List.getElem?_eq_none (by rw [lD]; exact y)] at e; cases e
      rw [List.getElem?_append_left hi] at e
      have o2 := q5 i c (by rw [List.getElem?_append_left hi]; exact e)
      rw [tk_i (by omega), tk_i (by omega)] at o2 ⊢
      exact o2
  · have w10 : ∀ t, jI (wI (wI (wI G 21 10 (240 * o + L) (opN x)) 21 11 (240 * o + L) v) 21 5 o (nI (L + 1))) 21 10 t = jI (wI G 21 10 (240 * o + L) (opN x)) 21 10 t := fun t => by rw [jI_a (by decide), jI_a (by decide)]
    have w11 : ∀ t, jI (wI (wI (wI G 21 10 (240 * o + L) (opN x)) 21 11 (240 * o + L) v) 21 5 o (nI (L + 1))) 21 11 t = jI (wI (wI G 21 10 (240 * o + L) (opN x)) 21 11 (240 * o + L) v) 21 11 t := fun t => by rw [jI_a (by decide)]
    rw [fD] at e
    rw [w10, w11]
    by_cases z : j = L
    · subst z
      rw [List.getElem?_append_right (by omega), hL, Nat.sub_self] at e
      have e := Option.some.inj e
      subst e
      rw [jI_same, jI_same]
      exact ⟨rfl, hv⟩
    · have hj : j < L := by
        rcases Nat.lt_or_ge j (L + 1) with y | y
        · omega
        · rw [List.getElem?_eq_none (by rw [List.length_append, hL]; exact y)] at e; cases e
      rw [List.getElem?_append_left (by omega)] at e
      have nz : 240 * o + j ≠ 240 * o + L := by omega
      rw [jI_k nz, jI_k nz, jI_a (by decide)]
      exact q6 j y e
/-- find(o, rule, kind) -/
theorem r177 {d o : Nat} {l2 l3 : Int32} {h : Hp} {D : List Bod} {K : Int32 → Hp → Prop} {P : Nat → List AV → List AV → Hp → Prop} (hP : Cl (Call d) 177 (fun v h' => ∃ x, v = some (vI x) ∧ K x h') P) (S : RSh h) (ho : o < 6) (hl : D.length ≤ 12) (u0 : jI h 21 4 o = nI D.length) (q : ∀ i b, D[i]? = some b → jI h 21 6 (12 * o + i) = nI b.1 ∧ jI h 21 7 (12 * o + i) = nI b.2.1) : ∀ (E : List Bod) (i : Nat), D.drop i = E → i ≤ D.length → K (mR (fnd E l2 l3 i)) h → P 3 [vR 11 (some 0), vI (nI o), vI l2, vI l3, vI (nI i)] [] h
  | [], i, e, hi, kk => by
    have : D.length ≤ i := by
      have := congrArg List.length e
      rw [List.length_drop] at this
      have e0 : ([] : List Bod).length = 0 := rfl
      omega
    have io : ix (nI o) = o := nI_clamp (by omega)
    refine v177_3 hP 0 (nI o) l2 l3 (nI i) h (dr_of S.r18 ⟨by rw [S.n18]; exact vp_in_nI ho (by decide), fun _ => ⟨_, rfl, kk⟩, fun c => absurd ?_ c⟩)
    rw [io, u0]; exact nI_le this (by omega)
  | b :: E, i, e, hi, kk => by
    have hlt : i < D.length := by
      rcases Nat.lt_or_ge i D.length with z | z
      · exact z
      · rw [List.drop_eq_nil_of_le z] at e; cases e
    have eb : D[i]? = some b := by
      have := congrArg (fun l => l[0]?) e
      simp only [List.getElem?_drop, Nat.add_zero, List.getElem?_cons_zero] at this
      exact this
    have ed : D.drop (i + 1) = E := by
      have := congrArg List.tail e
      rw [List.tail_drop] at this
      exact this
    have io : ix (nI o) = o := nI_clamp (by omega)
    have ii : ix (nI (12 * o + i)) = 12 * o + i := nI_clamp (by omega)
    have qb := q i b eb
    have v72 : ∀ {j : Nat}, jLen h 21 j = 72 → vp_in (nI (12 * o + i)) (jLen h 21 j) := fun e => by rw [e]; exact vp_in_nI (by omega) (by decide)
    unfold fnd at kk
    refine v177_3 hP 0 (nI o) l2 l3 (nI i) h (dr_of S.r18 ⟨by rw [S.n18]; exact vp_in_nI ho (by decide), fun c => absurd (by rw [io, u0] at c; exact c) (nI_ge hlt (by omega)), fun _ => ?_⟩)
    rw [x12, ii]
    refine dr_of S.r20 ⟨v72 S.n20, fun c => ?_, fun c => dr_of S.r21 ⟨v72 S.n21, fun c2 => ?_, fun c2 => ⟨_, rfl, ?_⟩⟩⟩
    · rw [qb.1] at c
      rw [if_neg (fun z => c z.1)] at kk
      rw [nI_1]
      exact r177 hP S ho hl u0 q E (i + 1) ed hlt kk
    · rw [qb.2] at c2
      rw [if_neg (fun z => c2 z.2)] at kk
      rw [nI_1]
      exact r177 hP S ho hl u0 q E (i + 1) ed hlt kk
    · rw [qb.1] at c
      rw [qb.2] at c2
      rw [if_pos ⟨Classical.not_not.mp c, Classical.not_not.mp c2⟩] at kk
      exact kk
theorem s177 {d o m : Nat} {l2 l3 : Int32} {h : Hp} {D : List Bod} {K : Int32 → Hp → Prop} (S : RSh h) (ho : o < 6) (Q : RpG h o D m) (kk : K (mR (fnd D l2 l3 0)) h) : CI (d + 1) 177 [vR 11 (some 0), vI (nI o), vI l2, vI l3] h K := fun P hP => v177 hP 0 (nI o) l2 l3 h (r177 hP S ho Q.1 Q.2.2.1 (fun i b e => ⟨(Q.2.2.2.2.1 i b e).1, (Q.2.2.2.2.1 i b e).2.1⟩) D 0 rfl (Nat.zero_le _) kk)
theorem RpG.tk {G h : Hp} {n p o m : Nat} {tx : Nat → Int32} {D : List Bod} (R : RtN G h 0 1 n tx p) (Q : RpG G o D m) : RpG h o D m := by
  obtain ⟨q1, q2, q3, q4, q5, q6⟩ := Q
  refine ⟨q1, q2, ?_, ?_, fun i b e => ?_, fun j x e => ?_⟩
  · rw [R.I (by decide)]; exact q3
  · rw [R.I (by decide)]; exact q4
  · rw [R.I (by decide), R.I (by decide), R.I (by decide), R.I (by decide)]; exact q5 i b e
  · rw [R.I (by decide), R.I (by decide)]; exact q6 j x e
