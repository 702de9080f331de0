/-! the reference's person, marry -/
def XPe : Nat → Nat → Nat → Prop := fun t a k => (t = 24 ∧ a = 0) ∨ (t = 21 ∧ 18 ≤ a ∧ a ≤ 21) ∨ (t = 11 ∧ a = 0 ∧ k = 40)
theorem nar_b (b : Bool) : vp_nar .boolean (bi b) = bi b := by cases b <;> decide +kernel
section
variable {n ns : Nat} {mn : Nat → Bool} {pr : Nat → Option (Nat × Nat)} {sd : Nat → Nat} {mr : Nat → Option Nat}
/-- a person is written -/
theorem a205 {d s : Nat} {b : Bool} {x : Option (Nat × Nat)} {l4 l5 l6 : Int32} {h : Hp} {K : Int32 → Hp → Prop} {P : Nat → List AV → List AV → Hp → Prop} (hP : Cl (Call d) 205 (fun v h' => ∃ x, v = some (vI x) ∧ K x h') P) (S : RSh h) (Q : PeR h n mn pr sd mr) (hn : n < 100) (e6 : x = none → l6 = nI s) (h5 : (l5 = 0 → l6 = -1) ∧ (¬ l5 = 0 → l6 = l4)) (k : ∀ h', EqX XPe h h' → PeR h' (n + 1) (upf mn n b) (upf pr n x) (upf sd n s) (upf mr n none) → K (nI n) h') : P 91 [vR 11 (some 0), vI (bi b), vI (mR (x.map Prod.fst)), vI (mR (x.map Prod.snd)), vI l4, vI l5] [] h := by
  have i1 : ix (nI n) = n := nI_clamp (by omega)
  have w : ∀ N, N = 100 → vp_in (nI n) N := fun N e => by rw [e]; exact vp_in_nI hn (by decide)
  have e40 := Q.1
  refine v205_91 hP 0 (bi b) _ _ l4 l5 h (dr_of S.r41 ⟨by rw [e40]; exact w _ S.n41, ?_⟩)
  rw [e40, i1, nar_b]
  have E1 : EqX XPe h (wI h 24 0 n (bi b)) := (EqX.refl _ h).wI _ (Or.inl ⟨rfl, rfl⟩)
  have S1 := E1.sh S
  have f1 : jI (wI h 24 0 n (bi b)) 11 0 40 = nI n := by rw [jI_t (by decide)]; exact e40
  refine dr_of S1.r42 ⟨by rw [f1]; exact w _ S1.n42, ?_⟩
  rw [f1, i1]
  have E2 : EqX XPe h (wI (wI h 24 0 n (bi b)) 21 18 n (mR (x.map Prod.fst))) := E1.wI _ (Or.inr (Or.inl ⟨rfl, by decide, by decide⟩))
  have S2 := E2.sh S
  have f2 : jI (wI (wI h 24 0 n (bi b)) 21 18 n (mR (x.map Prod.fst))) 11 0 40 = nI n := by rw [jI_t (by decide)]; exact f1
  refine dr_of S2.r43 ⟨by rw [f2]; exact w _ S2.n43, fun h4 e4 => ?_⟩
  rw [f2, i1] at e4
  have E3 : EqX XPe h h4 := by rw [e4]; exact E2.wI _ (Or.inr (Or.inl ⟨rfl, by decide, by decide⟩))
  have S3 := E3.sh S
  have f3 : jI h4 11 0 40 = nI n := by rw [e4, jI_t (by decide)]; exact f2
  have go : P 140 [vR 11 (some 0), vI (bi b), vI (mR (x.map Prod.fst)), vI (mR (x.map Prod.snd)), vI l4, vI l5] [vI l6, vI (jI h4 11 0 40), vR 21 (jR h4 11 0 44)] h4 := by
    rw [f3]
    refine v205_140 hP 0 _ _ _ l4 l5 l6 (nI n) _ h4 (dr_of S3.r44 ⟨w _ S3.n44, ?_⟩)
    rw [i1]
    have E4 : EqX XPe h (wI h4 21 20 n l6) := E3.wI _ (Or.inr (Or.inl ⟨rfl, by decide, by decide⟩))
    have S4 := E4.sh S
    have f4 : jI (wI h4 21 20 n l6) 11 0 40 = nI n := by rw [jI_t (by decide)]; exact f3
    refine dr_of S4.r45 ⟨by rw [f4]; exact w _ S4.n45, fun h5 e5 => ?_⟩
    rw [f4, i1, jI_t (by decide), f4, nI_1] at e5
    have f5 : jI h5 11 0 40 = nI (n + 1) := by rw [e5]; exact jI_same ..
    rw [f5, nI_s1]
    have E5 : EqX XPe h h5 := by rw [e5]; exact (E4.wI _ (Or.inr (Or.inl ⟨rfl, by decide, by decide⟩))).wI _ (Or.inr (Or.inr ⟨rfl, rfl, rfl⟩))
    refine ⟨_, rfl, k h5 E5 ⟨f5, fun i hi => ?_⟩⟩
    have g1 : jI h5 24 0 i = if i = n then bi b else jI h 24 0 i := by
      rw [e5, jI_t (by decide), jI_t (by decide), jI_t (by decide), e4, jI_t (by decide), jI_t (by decide)]
      by_cases z : i = n
      · rw [if_pos z, z, jI_same]
      · rw [if_neg z, jI_k z]
    have g2 : jI h5 21 18 i = if i = n then mR (x.map Prod.fst) else jI h 21 18 i := by
      rw [e5, jI_t (by decide), jI_a (by decide), jI_a (by decide), e4, jI_a (by decide)]
      by_cases z : i = n
      · rw [if_pos z, z, jI_same]
      · rw [if_neg z, jI_k z, jI_t (by decide)]
    have g3 : jI h5 21 19 i = if i = n then mR (x.map Prod.snd) else jI h 21 19 i := by
      rw [e5, jI_t (by decide), jI_a (by decide), jI_a (by decide), e4]
      by_cases z : i = n
      · rw [if_pos z, z, jI_same]
      · rw [if_neg z, jI_k z, jI_a (by decide), jI_t (by decide)]
    have g4 : jI h5 21 20 i = if i = n then l6 else jI h 21 20 i := by
      rw [e5, jI_t (by decide), jI_a (by decide)]
      by_cases z : i = n
      · rw [if_pos z, z, jI_same]
      · rw [if_neg z, jI_k z, e4, jI_a (by decide), jI_a (by decide), jI_t (by decide)]
    have g5 : jI h5 21 21 i = if i = n then -1 else jI h 21 21 i := by
      rw [e5, jI_t (by decide)]
      by_cases z : i = n
      · rw [if_pos z, z, jI_same]
      · rw [if_neg z, jI_k z, jI_a (by decide), e4, jI_a (by decide), jI_a (by decide), jI_t (by decide)]
    rw [g1, g2, g3, g4, g5]
    by_cases z : i = n
    · rw [if_pos z, if_pos z, if_pos z, if_pos z, if_pos z, z, upf_eq, upf_eq, upf_eq, upf_eq]
      refine ⟨rfl, ?_, ?_, fun e => e6 e, rfl⟩
      · unfold faO; rw [upf_eq]
      · unfold moO; rw [upf_eq]
    · rw [if_neg z, if_neg z, if_neg z, if_neg z, if_neg z, upf_ne z, upf_ne z, upf_ne z, upf_ne z, faO_up z, moO_up z]
      exact Q.2 i (by omega)
  refine ⟨fun c => ?_, fun c => ?_⟩
  · rw [h5.1 c] at go; exact go
  · rw [h5.2 c] at go; exact go
/-- person(man, father, mother, shield) -/
theorem s205 {d nl : Nat} {b : Bool} {x y z : Int32} {h : Hp} {K : Int32 → Hp → Prop} (S : RSh h) (V : PsV n mn pr sd mr ns) (Q : PeR h n mn pr sd mr) (el : jI h 11 0 11 = nI nl) (hl : nl ≤ 60) (ka : x = -1 → y = -1 → asP nl z = none → K (-1) h) (kb : x = -1 → y = -1 → ¬ n < 100 → K (-1) h) (kc : ∀ s, x = -1 → y = -1 → asP nl z = some s → n < 100 → ∀ h', EqX XPe h h' → PeR h' (n + 1) (upf mn n b) (upf pr n none) (upf sd n s) (upf mr n none) → K (nI n) h') (kd : ¬ (x = -1 ∧ y = -1) → chO n mn mr x y = none → K (-1) h) (ke : ∀ f m, ¬ (x = -1 ∧ y = -1) → chO n mn mr x y = some (f, m) → ∀ h', EqX XPe h h' → PeR h' (n + 1) (upf mn n b) (upf pr n (some (f, m))) (upf sd n 0) (upf mr n none) → K (nI n) h') : CI (d + 2) 205 [vR 11 (some 0), vI (bi b), vI x, vI y, vI z] h K := by
  intro P hP
  have hn := V.1
  have e40 := Q.1
  have h30 : n < 2 ^ 30 := by omega
  have full : ¬ n < 100 → chO n mn mr x y = none := fun c => by
    unfold chO
    split
    · rw [if_neg (fun w => c w.1)]
    · rfl
  have fin : ∀ l5 : Int32, (¬ l5 = 0 → x = -1 ∧ y = -1) → (l5 = 0 → ¬ (x = -1 ∧ y = -1)) → n < 100 → P 26 [vR 11 (some 0), vI (bi b), vI x, vI y, vI z, un] [vI l5] h := fun l5 hA hB hlt => by
    refine v205_26 hP 0 (bi b) x y z l5 h ⟨fun c => ?_, fun c => ?_⟩
    · have hne := hB c
      have nope : ∀ g : Hp, K (-1) g → P 89 [vR 11 (some 0), vI (bi b), vI x, vI y, vI z, vI l5] [] g := fun g kg => v205_89 hP 0 _ _ _ _ _ g ⟨_, rfl, kg⟩
      refine s206 e40 hn (fun hno => ⟨fun _ => nope h (kd hne (chO_n1 (asP_n h30 hno))), fun w => absurd rfl w⟩) (fun f hf ef => ⟨(fun w => absurd w (by decide)), fun _ => s206 e40 hn (fun hno => ⟨fun _ => nope h (kd hne (chO_n2 (asP_n h30 hno))), fun w => absurd rfl w⟩) (fun m hm em => ⟨(fun w => absurd w (by decide)), fun _ => ?_⟩)⟩)
      have e0 : chO n mn mr x y = if n < 100 ∧ mn f = true ∧ mr f = some m then some (f, m) else none := chO_2 (asP_s h30 hf ef) (asP_s h30 hm em)
      have if1 : ix x = f := by rw [ef]; exact nI_clamp (by omega)
      have im : ix y = m := by rw [em]; exact nI_clamp (by omega)
      obtain ⟨a1, a2, a3, a4, a5⟩ := Q.2 f hf
      obtain ⟨b1, b2, b3, b4, b5⟩ := Q.2 m hm
      refine dr_of S.r41 ⟨by rw [ef, S.n41]; exact vp_in_nI (by omega) (by decide), fun c1 => ?_, fun c1 => dr_of S.r41 ⟨by rw [em, S.n41]; exact vp_in_nI (by omega) (by decide), fun c2 => ?_, fun c2 => dr_of S.r45 ⟨by rw [ef, S.n45]; exact vp_in_nI (by omega) (by decide), fun c3 => ?_, fun c3 => ?_⟩⟩⟩
      · rw [if1, a1, bi_z] at c1
        refine nope h (kd hne ?_)
        rw [e0, if_neg (fun w => by rw [w.2.1] at c1; cases c1)]
      · rw [im, b1, bi_ne] at c2
        refine nope h (kd hne ?_)
        rw [e0, if_neg (fun w => ?_)]
        have v := V.2.2.2.2 f hf m w.2.2
        rw [w.2.1, c2] at v
        exact absurd v.2.2 (by decide)
      · rw [if1, a1, bi_ne] at c1
        rw [if1, a5, em, ← mR_s m, mR_eq (mr30 V hf) (fun i w => by have := Option.some.inj w; omega)] at c3
        rw [if_pos ⟨hlt, c1, c3⟩] at e0
        have kk := ke f m hne e0
        rw [ef, em]
        exact a205 (x := some (f, m)) (s := 0) (l6 := -1) hP S Q hlt (fun w => by cases w) ⟨fun _ => rfl, fun w => absurd c w⟩ kk
      · refine nope h (kd hne ?_)
        rw [e0, if_neg (fun w => c3 ?_)]
        rw [if1, a5, em, ← mR_s m, w.2.2]
    · obtain ⟨hx, hy⟩ := hA c
      refine s159 el hl (fun hno => ⟨fun w => absurd rfl w, fun _ => v205_89 hP 0 _ _ _ _ _ h ⟨_, rfl, ka hx hy (asP_n (by omega) hno)⟩⟩) (fun s hs es => ⟨fun _ => ?_, fun w => absurd (by decide) w⟩)
      have kk := kc s hx hy (asP_s (by omega) hs es) hlt
      rw [hx, hy]
      exact a205 (x := none) (s := s) (l6 := z) hP S Q hlt (fun _ => es) ⟨fun w => absurd w c, fun _ => rfl⟩ kk
  refine v205 hP 0 (bi b) x y z h ⟨fun c => ?_, fun c => ⟨_, rfl, ?_⟩⟩
  · have hlt : n < 100 := by
      rcases Nat.lt_or_ge n 100 with w | w
      · exact w
      · exact absurd (by rw [e40, show n = 100 by omega]; rfl) c
    refine ⟨fun c1 => v205_25 hP 0 _ _ _ _ h (fin 0 (fun w => absurd rfl w) (fun _ w => c1 w.1) hlt), fun c1 => ⟨fun c2 => v205_25 hP 0 _ _ _ _ h (fin 0 (fun w => absurd rfl w) (fun _ w => c2 w.2) hlt), fun c2 => fin 1 (fun _ => ⟨Classical.not_not.mp c1, Classical.not_not.mp c2⟩) (fun w => absurd w (by decide)) hlt⟩⟩
  · have c1 := Classical.not_not.mp c
    rw [e40] at c1
    have hge : ¬ n < 100 := fun w => by
      have := (nI_eq (a := n) (b := 100) (by omega) (by decide)).mp c1
      omega
    by_cases w : x = -1 ∧ y = -1
    · exact kb w.1 w.2 hge
    · exact kd w (full hge)
/-- marry(man, woman) -/
theorem s207 {d : Nat} {x y : Int32} {h : Hp} {K : Int32 → Hp → Prop} (S : RSh h) (V : PsV n mn pr sd mr ns) (Q : PeR h n mn pr sd mr) (k0 : jnO n mn mr x y = none → K 0 h) (k1 : ∀ a b, jnO n mn mr x y = some (a, b) → ∀ h', EqX XPe h h' → PeR h' n mn pr sd (upf (upf mr a (some b)) b (some a)) → K 1 h') : CI (d + 2) 207 [vR 11 (some 0), vI x, vI y] h K := by
  intro P hP
  have hn := V.1
  have e40 := Q.1
  have h30 : n < 2 ^ 30 := by omega
  refine v207 hP 0 x y h (s206 e40 hn (fun hno => ⟨fun _ => ⟨_, rfl, k0 (jnO_n1 (asP_n h30 hno))⟩, fun w => absurd rfl w⟩) (fun f hf ef => ⟨(fun w => absurd w (by decide)), fun _ => s206 e40 hn (fun hno => ⟨fun _ => ⟨_, rfl, k0 (jnO_n2 (asP_n h30 hno))⟩, fun w => absurd rfl w⟩) (fun m hm em => ⟨(fun w => absurd w (by decide)), fun _ => ?_⟩)⟩))
  have e0 : jnO n mn mr x y = if mn f = true ∧ mn m = false ∧ mr f = none ∧ mr m = none then some (f, m) else none := jnO_2 (asP_s h30 hf ef) (asP_s h30 hm em)
  have if1 : ix x = f := by rw [ef]; exact nI_clamp (by omega)
  have im : ix y = m := by rw [em]; exact nI_clamp (by omega)
  have wx : ∀ N, N = 100 → vp_in x N := fun N e => by rw [e, ef]; exact vp_in_nI (by omega) (by decide)
  have wy : ∀ N, N = 100 → vp_in y N := fun N e => by rw [e, em]; exact vp_in_nI (by omega) (by decide)
  obtain ⟨a1, a2, a3, a4, a5⟩ := Q.2 f hf
  obtain ⟨b1, b2, b3, b4, b5⟩ := Q.2 m hm
  refine dr_of S.r41 ⟨wx _ S.n41, fun c1 => ⟨_, rfl, k0 ?_⟩, fun c1 => dr_of S.r41 ⟨wy _ S.n41, fun c2 => ⟨_, rfl, k0 ?_⟩, fun c2 => dr_of S.r45 ⟨wx _ S.n45, fun c3 => ⟨_, rfl, k0 ?_⟩, fun c3 => dr_of S.r45 ⟨wy _ S.n45, fun c4 => dr_of S.r45 ⟨wx _ S.n45, ?_⟩, fun c4 => ⟨_, rfl, k0 ?_⟩⟩⟩⟩⟩
  · rw [if1, a1, bi_z] at c1
    rw [e0, if_neg (fun w => by rw [w.1] at c1; cases c1)]
  · rw [im, b1, bi_ne] at c2
    rw [e0, if_neg (fun w => by rw [w.2.1] at c2; cases c2)]
  · rw [if1, a5] at c3
    rw [e0, if_neg (fun w => c3 (by rw [w.2.2.1]; rfl))]
  · rw [if1, a1, bi_ne] at c1
    rw [im, b1, bi_ne] at c2
    rw [if1, a5] at c3
    rw [im, b5] at c4
    have h3 : mr f = none := (mR_eq (b := none) (mr30 V hf) (fun i w => by cases w)).mp (Classical.not_not.mp c3)
    have h4 : mr m = none := (mR_eq (b := none) (mr30 V hm) (fun i w => by cases w)).mp c4
    have h2 : mn m = false := by
      cases hb : mn m with
      | false => rfl
      | true => exact absurd hb c2
    rw [if_pos ⟨c1, h2, h3, h4⟩] at e0
    rw [if1, im]
    have E1 : EqX XPe h (wI h 21 21 f y) := (EqX.refl _ h).wI _ (Or.inr (Or.inl ⟨rfl, by decide, by decide⟩))
    have S1 := E1.sh S
    refine dr_of S1.r45 ⟨wy _ S1.n45, _, rfl, ?_⟩
    refine k1 f m e0 _ (E1.wI _ (Or.inr (Or.inl ⟨rfl, by decide, by decide⟩))) ⟨by rw [jI_t (by decide), jI_t (by decide)]; exact e40, fun i hi => ?_⟩
    obtain ⟨q1, q2, q3, q4, q5⟩ := Q.2 i hi
    refine ⟨?_, ?_, ?_, ?_, ?_⟩
    · rw [jI_t (by decide), jI_t (by decide)]; exact q1
    · rw [jI_a (by decide), jI_a (by decide)]; exact q2
    · rw [jI_a (by decide), jI_a (by decide)]; exact q3
    · rw [jI_a (by decide), jI_a (by decide)]; exact q4
    · by_cases z1 : i = m
      · rw [z1, jI_same, upf_eq, ef]; rfl
      · rw [jI_k z1, upf_ne z1]
        by_cases z2 : i = f
        · rw [z2, jI_same, upf_eq, em]; rfl
        · rw [jI_k z2, upf_ne z2]; exact q5
  · rw [im, b5] at c4
    rw [e0, if_neg (fun w => c4 (by rw [w.2.2.2]; rfl))]
end
