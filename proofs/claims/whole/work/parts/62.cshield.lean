/-! the class's readShield -/
def XE : Nat → Nat → Nat → Prop := fun _ _ _ => False
/-- the place pl of the row pa, as the cells sh say -/
def PlOK (G : Hp) (pa pl : Nat) (sh : Nat → Int32) : Prop := (jR G 33 pa pl = none ∧ ∀ i, i < 9 → sh (3 + 9 * pl + i) = emR i) ∨ ∃ pt da, jR G 33 pa pl = some pt ∧ pt < jN G 3 ∧ (da < jN G 21 ∧ 31 ≤ da) ∧ PV pl (fun i => sh (3 + 9 * pl + i)) ∧ PtOK G pt da pl (fun i => sh (3 + 9 * pl + i))
/-- the shield s with its row pa has the cells sh -/
def ShOK (G : Hp) (s pa : Nat) (sh : Nat → Int32) : Prop := s < jN G 7 ∧ pa < jN G 33 ∧ jI G 7 s 0 = sh 0 ∧ jI G 7 s 1 = sh 1 ∧ jI G 7 s 2 = sh 2 ∧ jR G 7 s 3 = some pa ∧ jLen G 33 pa = 7 ∧ ∀ pl, pl < 7 → PlOK G pa pl sh
theorem PtOK.fr {X : Nat → Nat → Nat → Prop} {c z pt da pl : Nat} {r : Nat → Int32} {G G' : Hp} (Q : PtOK G pt da pl r) (F : Fr X c z G G') (h3 : pt < jN G 3) (h21 : da < jN G 21) (hX : ∀ k, ¬ X 3 pt k ∧ ¬ X 21 da k) : PtOK G' pt da pl r := by
  obtain ⟨q0, q1, q2, q3, q4, q5, q6, q7⟩ := Q
  obtain ⟨f1, f2, f3, f4, f5⟩ := F
  refine ⟨?_, ?_, ?_, ?_, ?_, ?_, ?_, fun i hi => ?_⟩
  · rw [(f3 3 pt 0 h3 (hX 0).1).1]; exact q0
  · rw [(f3 3 pt 1 h3 (hX 1).1).1]; exact q1
  · rw [(f3 3 pt 2 h3 (hX 2).1).1]; exact q2
  · rw [(f3 3 pt 3 h3 (hX 3).1).1]; exact q3
  · rw [(f3 3 pt 4 h3 (hX 4).1).1]; exact q4
  · rw [(f3 3 pt 5 h3 (hX 5).1).2.1]; exact q5
  · rw [f2 21 da h21]; exact q6
  · rw [(f3 21 da i h21 (hX i).2).1]; exact q7 i hi
theorem PtOK.ext {G : Hp} {pt da pl : Nat} {r r' : Nat → Int32} (Q : PtOK G pt da pl r) (h : ∀ i, i < 9 → r' i = r i) : PtOK G pt da pl r' := by
  obtain ⟨q0, q1, q2, q3, q4, q5, q6, q7⟩ := Q
  refine ⟨q0, ?_, ?_, ?_, ?_, q5, q6, fun i hi => ?_⟩
  · rw [h 0 (by decide)]; exact q1
  · rw [h 2 (by decide)]; exact q2
  · rw [h 3 (by decide)]; exact q3
  · rw [h 1 (by decide)]; exact q4
  · rw [h (4 + i) (by omega)]; exact q7 i hi
theorem PV.ext {pl : Nat} {r r' : Nat → Int32} (Q : PV pl r) (h : ∀ i, i < 9 → r' i = r i) : PV pl r' := by
  obtain ⟨k, t, m, w, h0, h1, h2, h3, h4, h5, h6, h7, h8, h9⟩ := Q
  refine ⟨k, t, m, w, ?_, ?_, ?_, ?_, h4, h5, h6, h7, fun i hi => ?_, ?_⟩
  · rw [h 0 (by decide)]; exact h0
  · rw [h 1 (by decide)]; exact h1
  · rw [h 2 (by decide)]; exact h2
  · rw [h 3 (by decide)]; exact h3
  · rw [h (4 + i) (by omega)]; exact h8 i hi
  · rcases h9 with z | z
    · exact Or.inl ⟨z.1, z.2.1, z.2.2.1, fun i hi => by rw [h (4 + i) (by omega)]; exact z.2.2.2 i hi⟩
    · exact Or.inr z
theorem put_in (sh : Nat → Int32) (pl : Nat) (r : Nat → Int32) {i : Nat} (hi : i < 9) : putS sh pl r (3 + 9 * pl + i) = r i := by
  rw [show 3 + 9 * pl + i = 3 + (9 * pl + i) by omega]; exact put_r _ _ _ hi
/-- shields stay as they are where nothing of theirs is changed -/
theorem ShOK.fr {X : Nat → Nat → Nat → Prop} {c z s pa : Nat} {sh : Nat → Int32} {G G' : Hp} (Q : ShOK G s pa sh) (F : Fr X c z G G') (hX : (∀ a k, ¬ X 3 a k) ∧ (∀ a k, 31 ≤ a → ¬ X 21 a k) ∧ (∀ k, k < 4 → ¬ X 7 s k) ∧ (∀ k, ¬ X 33 pa k)) : ShOK G' s pa sh := by
  obtain ⟨q1, q2, q3, q4, q5, q6, q7, q8⟩ := Q
  obtain ⟨x3, x21, x7, x33⟩ := hX
  have f1 := F.1
  have f3 := F.2.2.1
  refine ⟨Nat.lt_of_lt_of_le q1 (f1 7), Nat.lt_of_lt_of_le q2 (f1 33), ?_, ?_, ?_, ?_, ?_, fun pl hpl => ?_⟩
  · rw [(f3 7 s 0 q1 (x7 0 (by decide))).1]; exact q3
  · rw [(f3 7 s 1 q1 (x7 1 (by decide))).1]; exact q4
  · rw [(f3 7 s 2 q1 (x7 2 (by decide))).1]; exact q5
  · rw [(f3 7 s 3 q1 (x7 3 (by decide))).2.1]; exact q6
  · rw [F.2.1 33 pa q2]; exact q7
  · have e := (f3 33 pa pl q2 (x33 pl)).2.1
    rcases q8 pl hpl with z | ⟨pt, da, z1, z2, z3, z4, z5⟩
    · exact Or.inl ⟨e.trans z.1, z.2⟩
    · exact Or.inr ⟨pt, da, e.trans z1, Nat.lt_of_lt_of_le z2 (f1 3), ⟨Nat.lt_of_lt_of_le z3.1 (f1 21), z3.2⟩, z4, z5.fr F z2 z3.1 (fun k => ⟨x3 pt k, x21 da k z3.2⟩)⟩
theorem ShOK.put {s pa pl : Nat} {sh r : Nat → Int32} {G G' : Hp} (Q : ShOK G s pa sh) (N : NewP G G' pa pl r) (hpl : pl < 7) (h31 : 31 ≤ jN G 21) (hv : PV pl r) : ShOK G' s pa (putS sh pl r) := by
  obtain ⟨q1, q2, q3, q4, q5, q6, q7, q8⟩ := Q
  obtain ⟨F, n1, n2, n3, n4⟩ := N
  have f1 := F.1
  have f3 := F.2.2.1
  have x7 : ∀ k, ¬ X33 pa pl 7 s k := fun k z => absurd z.1 (by decide)
  have p0 : ∀ j, j < 3 → putS sh pl r j = sh j := fun j hj => by unfold putS; rw [if_neg (by omega)]
  refine ⟨Nat.lt_of_lt_of_le q1 (f1 7), Nat.lt_of_lt_of_le q2 (f1 33), ?_, ?_, ?_, ?_, ?_, fun q hq => ?_⟩
  · rw [(f3 7 s 0 q1 (x7 0)).1, p0 0 (by decide)]; exact q3
  · rw [(f3 7 s 1 q1 (x7 1)).1, p0 1 (by decide)]; exact q4
  · rw [(f3 7 s 2 q1 (x7 2)).1, p0 2 (by decide)]; exact q5
  · rw [(f3 7 s 3 q1 (x7 3)).2.1]; exact q6
  · rw [F.2.1 33 pa q2]; exact q7
  · by_cases e : q = pl
    · subst e
      exact Or.inr ⟨_, _, n3, n1, ⟨n2, h31⟩, hv.ext (fun i hi => put_in _ _ _ hi), n4.ext (fun i hi => put_in _ _ _ hi)⟩
    · have e1 := (f3 33 pa q q2 (fun z => e z.2.2)).2.1
      have e2 : ∀ i, i < 9 → putS sh pl r (3 + 9 * q + i) = sh (3 + 9 * q + i) := fun i hi => put_out hi (fun z => e z.symm)
      rcases q8 q hq with z | ⟨pt, da, z1, z2, z3, z4, z5⟩
      · exact Or.inl ⟨e1.trans z.1, fun i hi => by rw [e2 i hi]; exact z.2 i hi⟩
      · exact Or.inr ⟨pt, da, e1.trans z1, Nat.lt_of_lt_of_le z2 (f1 3), ⟨Nat.lt_of_lt_of_le z3.1 (f1 21), z3.2⟩, z4.ext e2, (z5.fr F z2 z3.1 (fun k => ⟨fun z => absurd z.1 (by decide), fun z => absurd z.1 (by decide)⟩)).ext e2⟩
theorem r22 {d n a s pa : Nat} {tx : Nat → Int32} {H : Hp} {K : Option Nat → Hp → Prop} {P : Nat → List AV → List AV → Hp → Prop} (hP : Cl (Call (d + 9)) 63 (fun v h' => ∃ x, v = some (vR 7 x) ∧ K x h') P) (hB : Byt tx) (h31 : 31 ≤ jN H 21) (hs : jN H 7 ≤ s) (hpa : jN H 33 ≤ pa) : ∀ (f i l p : Nat) (sh : Nat → Int32) (G h : Hp), i + f = 7 → l ≤ 7 → TkN G h 0 a n tx p → Bs G → ShOK G s pa sh → jR G 7 s 4 = none → Fr XE (2 + 2 * i) (12 + 11 * i) H G → (∀ G' h' p', looS (kd tx n) (np tx n) f l p sh = (none, p') → TkN G' h' 0 a n tx p' → Fr XE 16 89 H G' → K none h') → (∀ G' h' p' sh', looS (kd tx n) (np tx n) f l p sh = (some sh', p') → TkN G' h' 0 a n tx p' → Fr XE 16 89 H G' → ShOK G' s pa sh' → jR G' 7 s 4 = none → K (some s) h') → P 22 [vR 8 (some 0), vR 7 (some s), vI (lst l), vI (nI i)] [] h
  | 0, i, l, p, sh, G, h, hi, hl, R, B, Q, e4, F, k0, k1 => by
    have e8 : jR h 8 0 0 = some 0 := by rw [R.R]; exact B.2
    have F2 : Fr XE 16 89 H G := F.le (by omega) (by omega)
    refine v63_22 hP 0 (some s) (lst l) (nI i) h ⟨fun _ => dr_of e8 (s78n R ⟨fun c => ⟨_, rfl, k0 _ _ p ?_ R F2⟩, fun c => ⟨_, rfl, k1 _ _ p sh ?_ R F2 Q e4⟩⟩), fun c => absurd (nI_le (a := 7) (by omega) (by omega)) c⟩
    · unfold looS; rw [if_neg (bi0.mp c)]
    · unfold looS; rw [if_pos (Classical.not_not.mp (fun y => c (bi0.mpr y)))]
  | f + 1, i, l, p, sh, G, h, hi, hl, R, B, Q, e4, F, k0, k1 => by
    have e8 : jR h 8 0 0 = some 0 := by rw [R.R]; exact B.2
    have F2 : Fr XE 16 89 H G := F.le (by omega) (by omega)
    refine v63_22 hP 0 (some s) (lst l) (nI i) h ⟨fun c => absurd c (nI_ge (b := 7) (by omega) (by omega)), fun _ => dr_of e8 (s78n R ⟨fun c => dr_of e8 (s78n R ⟨fun c2 => absurd c2 c, fun _ => ⟨_, rfl, k1 _ _ p sh ?_ R F2 Q e4⟩⟩), fun c => ?_⟩)⟩
    · rw [looS_eq, if_pos (Classical.not_not.mp (fun y => c (bi0.mpr y)))]
    · have n200 : ¬ kd tx n p = 200 := bi0.mp (Classical.not_not.mp c)
      refine s65 R B Q.2.2.2.2.2.1 Q.2.2.2.2.2.2.1 hB hl (fun G' h' p' e R' F' => ⟨fun z => absurd rfl z, fun _ => ⟨_, rfl, k0 _ _ _ (looS_n n200 e) R' ?_⟩⟩) (fun G' h' p' pl r e h1 h2 R' N => ⟨fun _ => ?_, fun z => absurd (nI_m1 (by omega)) z⟩)
      · exact (F.trans (Z := XE) F' (fun _ _ _ _ z => z) (fun t b k hb z => by
          obtain ⟨z1, z2⟩ := z
          subst z1 z2
          omega)).le (by omega) (by omega)
      · rw [looS_s n200 e] at k0 k1
        have mv := memS_v e hl
        have el : lst (pl + 1) = nI pl := by unfold lst; rw [if_neg (by omega)]; rfl
        rw [nI_1, ← el]
        refine r22 hP hB h31 hs hpa f (i + 1) (pl + 1) p' _ G' h' (by omega) (by omega) R' (B.fr N.1 (fun _ _ z => absurd z.1 (by decide))) (Q.put N h2 (Nat.le_trans h31 (F.1 21)) mv.1) ?_ ?_ k0 k1
        · rw [(N.1.2.2.1 7 s 4 Q.1 (fun z => absurd z.1 (by decide))).2.1]; exact e4
        · exact (F.trans (Z := XE) N.1 (fun _ _ _ _ z => z) (fun t b k hb z => by
            obtain ⟨z1, z2, z3⟩ := z
            subst z1 z2
            omega)).le (by omega) (by omega)
/-- readShield() -/
theorem s63 {d n a : Nat} {tx : Nat → Int32} {H h : Hp} {K : Option Nat → Hp → Prop} (R : TkN H h 0 a n tx 0) (B : Bs H) (hB : Byt tx) (h31 : 31 ≤ jN H 21) (k0 : ∀ G' h' p', shiS (kd tx n) (np tx n) = (none, p') → TkN G' h' 0 a n tx p' → Fr XE 16 89 H G' → K none h') (k1 : ∀ G' h' p' sh', shiS (kd tx n) (np tx n) = (some sh', p') → TkN G' h' 0 a n tx p' → Fr XE 16 89 H G' → ShOK G' (jN H 7) (jN H 33) sh' → jR G' 7 (jN H 7) 4 = none → K (some (jN H 7)) h') : CR (d + 10) 63 7 [vR 8 (some 0)] h K := by
  intro P hP
  refine v63 hP 0 h (fun a1 h2 e1 e2 => ?_)
  rw [R.N] at e1
  subst e1
  have R1 := R.mk (t := 7) 0 5 (by decide) (by decide)
  rw [← e2] at R1
  clear e2
  intro P' hP'
  refine v52 hP' (jN H 7) h2 (fun a3 h4 e3 e4 => ⟨rfl, ?_⟩)
  have e3 : a3 = jN H 33 := by
    rw [e3]
    show jN h2 33 = jN H 33
    rw [R1.N]; rfl
  subst e3
  have R2 := ((R1.wI (t := 7) (jN H 7) 1 (-1) (by decide) (by decide)).wI (t := 7) (jN H 7) 2 (-1) (by decide) (by decide)).mk (t := 33) 7 7 (by decide) (by decide)
  rw [← e4] at R2
  have R3 := R2.wR (t := 7) (jN H 7) 3 (some (jN H 33)) (by decide)
  clear e4 R1 R2 hP'
  generalize hG : wR (mk (wI (wI (mk H 7 0 5) 7 (jN H 7) 1 (-1)) 7 (jN H 7) 2 (-1)) 33 7 7) 7 (jN H 7) 3 (some (jN H 33)) = G at R3
  have F : Fr XE 2 12 H G := by
    rw [← hG]
    exact (((((Fr.refl _ H).mk 7 0 5).wI (-1) (Or.inl (Nat.le_refl _))).wI (-1) (Or.inl (Nat.le_refl _))).mk 33 7 7).wR _ (Or.inl (Nat.le_refl _))
  have i0 : jI G 7 (jN H 7) 0 = 0 := by
    rw [← hG]
    show jI (mk (wI (wI (mk H 7 0 5) 7 (jN H 7) 1 (-1)) 7 (jN H 7) 2 (-1)) 33 7 7) 7 (jN H 7) 0 = 0
    rw [mkT_I (by decide), jI_k (by decide), jI_k (by decide)]
    exact mk_I _ _ _ _ _
  have i1 : jI G 7 (jN H 7) 1 = -1 := by
    rw [← hG]
    show jI (mk (wI (wI (mk H 7 0 5) 7 (jN H 7) 1 (-1)) 7 (jN H 7) 2 (-1)) 33 7 7) 7 (jN H 7) 1 = -1
    rw [mkT_I (by decide), jI_k (by decide)]
    exact jI_same _ _ _ _ _
  have i2 : jI G 7 (jN H 7) 2 = -1 := by
    rw [← hG]
    show jI (mk (wI (wI (mk H 7 0 5) 7 (jN H 7) 1 (-1)) 7 (jN H 7) 2 (-1)) 33 7 7) 7 (jN H 7) 2 = -1
    rw [mkT_I (by decide)]
    exact jI_same _ _ _ _ _
  have g3 : jR G 7 (jN H 7) 3 = some (jN H 33) := by rw [← hG]; exact jR_same _ _ _ _ _
  have g4 : jR G 7 (jN H 7) 4 = none := by
    rw [← hG, jR_k (by decide), mkT_R (by decide)]
    exact mk_R H 7 0 5 4
  have n7 : jN G 7 = jN H 7 + 1 := by rw [← hG]; rfl
  have n33 : jN G 33 = jN H 33 + 1 := by rw [← hG]; rfl
  have l33 : jLen G 33 (jN H 33) = 7 := by rw [← hG]; exact if_pos ⟨rfl, rfl⟩
  have r33 : ∀ pl, jR G 33 (jN H 33) pl = none := by
    intro pl
    rw [← hG, jR_t (by decide)]
    exact if_pos ⟨rfl, rfl⟩
  have BG : Bs G := B.fr F (fun _ _ z => z)
  clear hG
  unfold shiS at k0 k1
  have FF : ∀ x y z, Fr XE 2 12 H (shH G (jN H 7) x y z) := fun x y z => ((F.wI x (Or.inl (Nat.le_refl _))).wI y (Or.inl (Nat.le_refl _))).wI z (Or.inl (Nat.le_refl _))
  refine s64 BG.2 i0 i1 i2 R3 (fun x y z h' p' e R' => ⟨fun z => absurd rfl z, fun _ => ⟨_, rfl, k0 _ _ _ (by rw [e]) R' ((FF x y z).le (by decide) (by decide))⟩⟩) (fun a' b c h' p' e R' => ⟨fun _ => ?_, fun z => absurd (by decide) z⟩)
  rw [e] at k0 k1
  have BG2 : Bs (shH G (jN H 7) (nI a') (nI b) (tnI c)) := ⟨BG.1, BG.2⟩
  refine r22 hP hB h31 (Nat.le_refl _) (Nat.le_refl _) 7 0 0 p' (iniS a' b c) _ h' rfl (by decide) R' BG2 ⟨?_, ?_, shH_r0 _ _ _ _ _, shH_r1 _ _ _ _ _, shH_r2 _ _ _ _ _, g3, l33, fun pl hpl => Or.inl ⟨r33 pl, fun i hi => ?_⟩⟩ g4 (FF _ _ _) k0 k1
  · show jN H 7 < jN G 7; omega
  · show jN H 33 < jN G 33; omega
  · unfold iniS
    rw [if_neg (by omega), if_neg (by omega), if_neg (by omega), show (3 + 9 * pl + i - 3) % 9 = i by omega]
