/-! the class's constructor, whole -/
def lC : Nat := (romB 33).length
def cHT : Hp := mk cM 23 lC lC
theorem cHT_n : (0 < jN cHT 10 ∧ 0 < jN cHT 9 ∧ 0 < jN cHT 4 ∧ 3 < jN cHT 23 ∧ 0 < jN cHT 37 ∧ 31 ≤ jN cHT 21) ∧ (0 < jN cHT 8 ∧ jR cHT 8 0 0 = some 0) ∧ (0 < jN cHT 2 ∧ jR cHT 2 0 0 = some 0) ∧ (jR cHT 10 0 0 = some 0 ∧ jR cHT 10 0 2 = some 0 ∧ jR cHT 10 0 4 = some 0 ∧ jR cHT 10 0 5 = some 0 ∧ jR cHT 10 0 6 = some 0 ∧ jR cHT 10 0 7 = some 0 ∧ jR cHT 10 0 8 = some 0 ∧ jR cHT 10 0 9 = some 0) ∧ jLen cHT 23 0 = 240 ∧ jLen cHT 37 0 = 60 := by decide +kernel
theorem cHT_h : CsH cHT := cHT_n
theorem cHT_i : jI cHT 10 0 1 = 0 ∧ jI cHT 10 0 3 = 0 ∧ jI cHT 0 0 4 = 0 ∧ jI cHT 4 0 1 = 0 ∧ jI cHT 6 0 1 = 0 ∧ jI cHT 6 0 2 = 0 ∧ jR cHT 6 0 0 = some 0 ∧ jLen cHT 35 0 = 100 ∧ jN cHT 5 = 0 ∧ 0 < jN cHT 6 ∧ 0 < jN cHT 35 ∧ jR cHT 4 0 0 = some 2 ∧ jLen cHT 23 2 = 256 ∧ jLen cHT 23 3 = lC ∧ lC ≤ 240 ∧ jC cHT ≤ 100 ∧ jZ cHT ≤ 10000 := by decide +kernel
theorem cHT_p : ∀ k, k < 6 → PkS cHT k := by
  unfold PkS
  decide +kernel
theorem cHT_z : ∀ k, k < 6 → jI cHT 1 k 0 = 0 ∧ jI cHT 1 k 1 = 0 := by decide +kernel
theorem cHT_b : (0 < jN cHT 0 ∧ 10 < jN cHT 21 ∧ jR cHT 0 0 3 = some 10 ∧ jLen cHT 21 10 = 32) ∧ 0 < jN cHT 31 ∧ jR cHT 0 0 0 = some 0 ∧ jR cHT 0 0 1 = some 0 ∧ jLen cHT 31 0 = 4 ∧ (∀ o, o < 4 → jR cHT 31 0 o = some (o + 2)) ∧ jR cHT 0 0 2 = some 1 := by decide +kernel
theorem cHT_s : BnS cHT (fun o => o + 2) 1 := by
  obtain ⟨a1, a2, a3, a4, a5, a6, a7⟩ := cHT_b
  exact ⟨a1, a2, a3, a4, a5, a6, a7, fun o ho => cHT_p (o + 2) (by omega), cHT_p 1 (by decide), cHT_p 0 (by decide), fun o ho => ⟨by show o + 2 ≠ 1; omega, by show o + 2 ≠ 0; omega⟩, by decide, fun o o' _ _ e => by have e : o + 2 = o' + 2 := e; omega⟩
theorem PkC.z {h : Hp} {k : Nat} (h0 : jI h 1 k 0 = 0) (h1 : jI h 1 k 1 = 0) : PkC h k [] := ⟨by decide, by decide, h0, h1, (fun i _ z => absurd z (Nat.lt_irrefl _)), (fun i b e => by cases e), (fun j x e => by cases e)⟩
/-- the bench, where one pack is read anew -/
theorem BnS.fr3 {h h' : Hp} {pk : Nat → Nat} {dr c z k0 : Nat} {X : Nat → Nat → Nat → Prop} (B : BnS h pk dr) (F : Fr X c z h h') (x0 : ∀ j, j < 4 → ¬ X 0 0 j) (x31 : ∀ j, ¬ X 31 0 j) (x1 : ∀ a j, a ≠ k0 → ¬ X 1 a j) (P : PkS h' k0) : BnS h' pk dr := by
  obtain ⟨b1, b2, b3, b4, b5, b6, b7, b8, b9, b10, b11, b12, b13⟩ := B
  have f0 := fun j (hj : j < 4) => (F.2.2.1 0 0 j b1.1 (x0 j hj)).2.1
  have pS : ∀ {q}, PkS h q → PkS h' q := fun {q} p => by
    by_cases y : q = k0
    · rw [y]; exact P
    · exact p.fr F (fun j => x1 _ j y)
  exact ⟨⟨Nat.lt_of_lt_of_le b1.1 (F.1 0), Nat.lt_of_lt_of_le b1.2.1 (F.1 21), (f0 3 (by decide)).trans b1.2.2.1, (F.2.1 21 10 b1.2.1).trans b1.2.2.2⟩, Nat.lt_of_lt_of_le b2 (F.1 31), (f0 0 (by decide)).trans b3, (f0 1 (by decide)).trans b4, (F.2.1 31 0 b2).trans b5, fun o ho => ((F.2.2.1 31 0 o b2 (x31 o)).2.1).trans (b6 o ho), (f0 2 (by decide)).trans b7, fun o ho => pS (b8 o ho), pS b9, pS b10, b11, b12, b13⟩
def XI : Nat → Nat → Nat → Prop := fun t a k => (t = 23 ∧ a = 3) ∨ t = 9 ∨ Xp 0 t a k
theorem RepC.ini {h : Hp} (F : Fr XI 0 0 cHT h) (n5 : jN h 5 = jN cHT 5) (P : PkS h 0) (C : PkC h 0 Dcm) : RepC S0 h := by
  have H := cHT_h
  obtain ⟨i1, i2, i3, i4, i5, i6, i7, i8, i9, i10, i11, i12, i13, i14, i15, -⟩ := cHT_i
  have x : ∀ t a k, t ≠ 23 → t ≠ 9 → t ≠ 1 → t ≠ 21 → ¬ XI t a k := fun t a k h1 h2 h3 h4 z => by
    rcases z with z | z | z | z
    · exact h1 z.1
    · exact h2 z
    · exact h3 z.1
    · exact h4 z.1
  have x23 : ∀ a k, a ≠ 3 → ¬ XI 23 a k := fun a k h1 z => by
    rcases z with z | z | z | z
    · exact h1 z.2
    · cases z
    · cases z.1
    · cases z.1
  have x21 : ∀ a k, 31 ≤ a → ¬ XI 21 a k := fun a k h1 z => by
    rcases z with z | z | z | z
    · cases z.1
    · cases z
    · cases z.1
    · have := pb31 (show 0 < 6 by decide) (show 4 < 5 by decide)
      omega
  have x1 : ∀ a j, a ≠ 0 → ¬ XI 1 a j := fun a j h1 z => by
    rcases z with z | z | z | z
    · cases z.1
    · cases z
    · exact h1 z.2
    · cases z.1
  have xp : ∀ k i j, k ≠ 0 → i < 5 → ¬ XI 21 (pb k + i) j := fun k i j hk hi z => by
    rcases z with z | z | z | z
    · cases z.1
    · cases z
    · cases z.1
    · have := pb_dis hk hi (show pb k + i - pb 0 < 5 by omega)
      omega
  have Q : ShC cHT [] (fun _ => 0) := ⟨i2, (fun k sh e => by cases e), fun i j _ hj => absurd hj (Nat.not_lt_zero _)⟩
  have T : TaC cHT 0 (fun _ => 0) := ⟨i1, fun j hj => absurd hj (Nat.not_lt_zero _)⟩
  have p1 : PnS cHT := ⟨i12, i13⟩
  have p2 : PnC cHT [] := ⟨by decide, i4, (fun i x e => by cases e), (fun x hx => by cases hx)⟩
  have G : ReC cHT (tP S0) (fun _ => 0) 0 := ⟨⟨i7, i8, i5, i9, fun i hi => absurd hi (Nat.not_lt_zero _), fun i hi => absurd hi (Nat.not_lt_zero _), fun i hi => absurd hi (Nat.not_lt_zero _), fun i j _ hj => absurd hj (Nat.not_lt_zero _), i10, i11⟩, i6, Nat.le_refl _, fun _ i hi => absurd hi (Nat.not_lt_zero _)⟩
  refine ⟨H.fr F (fun k _ _ => x _ _ _ (by decide) (by decide) (by decide) (by decide)) (fun k => x _ _ _ (by decide) (by decide) (by decide) (by decide)) (fun k => x _ _ _ (by decide) (by decide) (by decide) (by decide)), T.fr H F (x _ _ _ (by decide) (by decide) (by decide) (by decide)) (fun j => x23 _ j (by decide)), ⟨_, Q.fr H F (x _ _ _ (by decide) (by decide) (by decide) (by decide)) (fun k => x _ _ _ (by decide) (by decide) (by decide) (by decide)) (fun a k => x _ _ _ (by decide) (by decide) (by decide) (by decide)) (fun a k h1 _ => x21 a k h1) (fun a k => x _ _ _ (by decide) (by decide) (by decide) (by decide)) (fun a k => x _ _ _ (by decide) (by decide) (by decide) (by decide))⟩, ⟨_, _, cHT_s.fr3 F (fun j _ => x _ _ _ (by decide) (by decide) (by decide) (by decide)) (fun j => x _ _ _ (by decide) (by decide) (by decide) (by decide)) x1 P, fun o ho => (PkC.z (cHT_z (o + 2) (by omega)).1 (cHT_z (o + 2) (by omega)).2).fr (cHT_p (o + 2) (by omega)) F (fun j => x1 _ j (by omega)) (fun i j hi => xp _ i j (by omega) hi), C⟩, ?_, p1.fr H F (fun k => x _ _ _ (by decide) (by decide) (by decide) (by decide)), p2.fr H F (fun k => x _ _ _ (by decide) (by decide) (by decide) (by decide)) (fun k => x23 _ k (by decide)), _, _, G.fr F n5 (fun k => x _ _ _ (by decide) (by decide) (by decide) (by decide)) (fun k => x _ _ _ (by decide) (by decide) (by decide) (by decide)) (fun a k => x _ _ _ (by decide) (by decide) (by decide) (by decide)) (fun a k h1 _ => x21 a k h1)⟩
  rw [(F.2.2.1 0 0 4 cHT_b.1.1 (x _ _ _ (by decide) (by decide) (by decide) (by decide))).1]; exact i3
theorem cM_4 : jR cM 10 0 4 = some 0 ∧ jN cM 23 = 3 := by decide +kernel
theorem txC_b : Byt txC := by
  have h1 : (romB 33).all (fun x => inS 0 255 x) = true := by decide +kernel
  intro j
  unfold txC
  rw [List.getD_eq_getElem?_getD]
  cases e : (romB 33)[j]? with
  | none => rfl
  | some x => exact List.all_eq_true.mp h1 x (List.mem_of_getElem? e)
theorem C85 {d : Nat} {K : Hp → Prop} (k : ∀ h', RepC S0 h' → jC h' ≤ 100 → jZ h' ≤ 10000 → K h') : CV (d + 38) 85 [vR 10 (some 0)] cA1 K := by
  intro P hP
  refine v85 hP 0 cA1 ?_
  intro a1 h2 e1 e2 a3 h4 e3 e4 a5 h6 e5 e6
  obtain rfl : a1 = 0 := e1.trans (by decide +kernel)
  subst e2
  obtain rfl : a3 = 0 := e3.trans (by decide +kernel)
  subst e4
  obtain rfl : a5 = 0 := e5.trans (by decide +kernel)
  subst e6
  refine s75 (d := d + 36) (fun a8 h9 e8 e9 => ?_)
  obtain rfl : a8 = 0 := e8.trans (by decide +kernel)
  subst e9
  refine (fun P hP => v62 hP 0 _ _ ⟨rfl, ?_⟩)
  rw [show jR (mk (wR cA5 10 0 4 (some 0)) 8 0 1) 10 0 4 = some 0 from by decide +kernel]
  intro a11 h12 e11 e12
  obtain rfl : a11 = 0 := e11.trans (by decide +kernel)
  subst e12
  refine (fun P hP => v16 hP 0 _ _ ⟨rfl, ?_⟩)
  rw [show jR (mk (wR (wR (mk (wR cA5 10 0 4 (some 0)) 8 0 1) 8 0 0 (some 0)) 10 0 5 (some 0)) 2 0 1) 10 0 4 = some 0 from by decide +kernel]
  intro a14 h15 e14 e15
  obtain rfl : a14 = 0 := e14.trans (by decide +kernel)
  subst e15
  refine s29 (d := d + 36) (fun a17 h18 e17 e18 => ?_)
  obtain rfl : a17 = 0 := e17.trans (by decide +kernel)
  subst e18
  refine s0 (d := d + 35) (fun a20 h21 e20 e21 => ?_)
  obtain rfl : a20 = 0 := e20.trans (by decide +kernel)
  subst e21
  refine s45 (d := d + 36) ?_
  have hl : (romB 33).length = lC := rfl
  have hl16 : lC < 2 ^ 16 := by have := cHT_i.2.2.2.2.2.2.2.2.2.2.2.2.2.2.1; omega
  refine s226 (d := d + 34) (h := cM) hl hl16 cM_4.2 (fun h23 E t => s228 (d := d + 35) ?_)
  refine dr_of cM_4.1 ?_
  obtain ⟨i1, i2, i3, i4, i5, i6, i7, i8, i9, i10, i11, i12, i13, i14, i15, i16, i17⟩ := cHT_i
  have E : EqX (X23 3) cHT h23 := E
  have ln : jLen h23 23 3 = lC := by rw [E.2.1]; exact i14
  have F1 : Fr XI 0 0 cHT h23 := by
    have f := E.fr
    exact ⟨f.1, f.2.1, fun t a k h1 h2 => f.2.2.1 t a k h1 (fun z => h2 (Or.inl z)), f.2.2.2⟩
  have F2 : Fr XI 0 0 cHT (begH h23 0 3 lC) := ((F1.wR _ (Or.inr (Or.inr (Or.inl rfl)))).wI _ (Or.inr (Or.inr (Or.inl rfl)))).wI _ (Or.inr (Or.inr (Or.inl rfl)))
  have tt : ∀ j, j < lC → jI h23 23 3 j = txC j := t
  have hX : TokX (begH h23 0 3 lC) 0 3 lC txC := begH_X (by omega) (by rw [ln]; exact Nat.le_refl _) (by rw [ln]; omega) tt
  have Rt : TkN (begH h23 0 3 lC) (tokH (begH h23 0 3 lC) 0 (tkS txC lC 0)) 0 3 lC txC 0 := ⟨⟨_, rfl⟩, tokH_at hX (Nat.zero_le _), Nat.zero_le _⟩
  refine s76 (d := d + 35) (n := lC) (tx := txC) (by omega) (by rw [ln]; exact Nat.le_refl _) (by rw [ln]; omega) tt ?_
  have x : ∀ t a k, t ≠ 23 → t ≠ 9 → t ≠ 1 → t ≠ 21 → ¬ XI t a k := fun t a k h1 h2 h3 h4 z => by
    rcases z with z | z | z | z
    · exact h1 z.1
    · exact h2 z
    · exact h3 z.1
    · exact h4 z.1
  have H := cHT_h
  have P2 : PkS (begH h23 0 3 lC) 0 := by
    have p0 := cHT_p 0 (by decide)
    obtain ⟨s0, s1, s2, r2, r3, r4, r5, r6, l2, l3, l4, l5, l6⟩ := p0
    have j1 : ∀ k, jR (begH h23 0 3 lC) 1 0 k = jR cHT 1 0 k := fun k => by
      show jR (wR h23 9 0 0 (some 3)) 1 0 k = _
      rw [jR_t (by decide), E.2.2.1]
    have j2 : ∀ a, jLen (begH h23 0 3 lC) 21 a = jLen cHT 21 a := fun a => by
      show jLen h23 21 a = _
      rw [E.2.1]
    have j3 : jN (begH h23 0 3 lC) = jN cHT := E.1
    refine ⟨s0, by rw [j3]; exact s1, by rw [j3]; exact s2, (j1 2).trans r2, (j1 3).trans r3, (j1 4).trans r4, (j1 5).trans r5, (j1 6).trans r6, (j2 _).trans l2, (j2 _).trans l3, (j2 _).trans l4, (j2 _).trans l5, (j2 _).trans l6⟩
  have B2 : Bp (begH h23 0 3 lC) := ⟨Nat.lt_of_lt_of_le H.2.2.1.1 (F2.1 2), ((F2.2.2.1 2 0 0 H.2.2.1.1 (x _ _ _ (by decide) (by decide) (by decide) (by decide))).2.1).trans H.2.2.1.2⟩
  have r8 : jR (tokH (begH h23 0 3 lC) 0 (tkS txC lC 0)) 10 0 8 = some 0 := by rw [Rt.R]; exact ((F2.2.2.1 10 0 8 H.1.1 (x _ _ _ (by decide) (by decide) (by decide) (by decide))).2.1).trans H.2.2.2.1.2.2.2.2.2.2.1
  have r6 : jR (tokH (begH h23 0 3 lC) 0 (tkS txC lC 0)) 10 0 6 = some 0 := by rw [Rt.R]; exact ((F2.2.2.1 10 0 6 H.1.1 (x _ _ _ (by decide) (by decide) (by decide) (by decide))).2.1).trans H.2.2.2.1.2.2.2.2.1
  have r0 : jR (tokH (begH h23 0 3 lC) 0 (tkS txC lC 0)) 0 0 0 = some 0 := by rw [Rt.R]; exact ((F2.2.2.1 0 0 0 cHT_b.1.1 (x _ _ _ (by decide) (by decide) (by decide) (by decide))).2.1).trans cHT_b.2.2.1
  refine dr_of r8 (dr_of r6 ?_)
  rw [r0]
  obtain ⟨pC, eC⟩ := pckC
  refine CI.of ?_ (CI.n5 (by decide) (s17 (d := d) (K := fun _ h' => ∃ G' p', CL 3 lC 0 txC (begH h23 0 3 lC) G' h' p' ∧ PkC G' 0 Dcm) Rt P2 B2 txC_b i15 (fun G' h' p' e t => ?_) (fun G' h' p' D' e t c => ?_)))
  · rintro v h4 ⟨⟨G', p', t, c⟩, n5⟩
    obtain ⟨⟨⟨q, eq⟩, t1, t2⟩, t3, t4⟩ := id t
    have f : Fr XI 0 0 (begH h23 0 3 lC) G' := ⟨t4.1, t4.2.1, fun t a k h1 h2 => t4.2.2.1 t a k h1 (fun z => h2 (Or.inr (Or.inr z))), t4.2.2.2⟩
    have F3 : Fr XI 0 0 cHT h4 := by
      have := F2.trans f (Z := XI) (fun _ _ _ _ z => z) (fun _ _ _ _ z => z)
      rw [eq]; exact this.tok q (fun k => Or.inr (Or.inl rfl))
    have n5' : jN h4 5 = jN cHT 5 := by rw [n5, Rt.N]; exact congrFun E.1 5
    refine ⟨rfl, k h4 (RepC.ini F3 n5' (PkS.tk t.1 t3) (PkC.tk t.1 c)) ?_ ?_⟩
    · have := F3.2.2.2.1; omega
    · have := F3.2.2.2.2; omega
  · have e2 : (none, p') = (some Dcm, pC) := e.symm.trans eC
    cases congrArg Prod.fst e2
  · have e2 : (some D', p') = (some Dcm, pC) := e.symm.trans eC
    have e3 : D' = Dcm := Option.some.inj (congrArg Prod.fst e2)
    exact ⟨G', p', t, by rw [← e3]; exact c⟩
