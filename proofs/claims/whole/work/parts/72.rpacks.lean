/-! the reference's packs() -/
theorem tkS_len {tx : Nat → Int32} {n p : Nat} (h : (tkS tx n p).1 = 2) : (tkS tx n p).2.1 < (tkS tx n p).2.2 := by
  unfold tkS at h ⊢
  generalize scan isBl tx (n - p) p = s at h ⊢
  by_cases y : s < scan (inS 97 122) tx (n - s) s
  · rw [if_pos y] at h
    exact absurd h (by decide : ¬ (1 : Nat) = 2)
  · rw [if_neg y] at h ⊢
    by_cases y2 : s < scan (inS 48 57) tx (n - s) s
    · rw [if_pos y2]; exact y2
    · rw [if_neg y2] at h
      split at h
      · exact absurd h (by decide : ¬ (3 : Nat) = 2)
      · exact absurd h (by decide : ¬ (0 : Nat) = 2)
/-- one digit, at most 3 -/
theorem rule_i {h : Hp} {n p : Nat} {tx : Nat → Int32} (R : RtAt h 0 1 n tx p) : nmN tx n 1 p < 4 ↔ (jI h 11 0 4 = 100 ∧ jI h 11 0 10 = 1 ∧ jI h 11 0 7 ≤ 3) := by
  have rn := rt_num R
  have a4 := nmN_lt (tx := tx) (n := n) (p := p) (m := 4) (by decide)
  have a1 := nmN_lt (tx := tx) (n := n) (p := p) (m := 1) (by decide)
  have hp := R.2.1
  have hk := tkS_ok (tx := tx) hp
  have hn := R.1.1
  have e14 : (tkS tx n p).2.2 - (tkS tx n p).2.1 ≤ 1 → (tkS tx n p).1 = 2 → nmN tx n 1 p = nmN tx n 4 p := by
    intro z1 z2
    unfold nmN
    rw [if_pos ⟨z2, z1⟩, if_pos ⟨z2, by omega⟩]
  refine ⟨fun z => ?_, fun z => ?_⟩
  · have z1 := a1.mp (by omega)
    have z4 := a4.mpr ⟨z1.1, by omega⟩
    have hl := tkS_len z1.1
    obtain ⟨q1, q2⟩ := rn.2 z4
    refine ⟨rn.1.mpr z4, ?_, ?_⟩
    · rw [q2, show (tkS tx n p).2.2 - (tkS tx n p).2.1 = 1 by omega]; rfl
    · rw [q1, ← e14 z1.2 z1.1]; exact nI_le (b := 3) (by omega) (by omega)
  · obtain ⟨z1, z2, z3⟩ := z
    have z4 := rn.1.mp z1
    have z5 := a4.mp z4
    obtain ⟨q1, q2⟩ := rn.2 z4
    rw [q2] at z2
    have l1 := (nI_eq (a := (tkS tx n p).2.2 - (tkS tx n p).2.1) (b := 1) (by omega) (by omega)).mp z2
    rw [q1] at z3
    have z3 := (nI_leI (a := nmN tx n 4 p) (b := 3) (by omega) (by omega)).mp z3
    rw [e14 (by omega) z5.1]
    omega
theorem rule_v {h : Hp} {n p : Nat} {tx : Nat → Int32} (R : RtAt h 0 1 n tx p) (z : nmN tx n 1 p < 4) : jI h 11 0 7 = nI (nmN tx n 1 p) := by
  have z1 := (nmN_lt (tx := tx) (n := n) (p := p) (m := 1) (by decide)).mp (by omega)
  have z4 := (nmN_lt (tx := tx) (n := n) (p := p) (m := 4) (by decide)).mpr ⟨z1.1, by omega⟩
  rw [((rt_num R).2 z4).1]
  unfold nmN
  rw [if_pos z1, if_pos ⟨z1.1, by omega⟩]
theorem r18 {d n : Nat} {tx : Nat → Int32} {H : Hp} {K : Int32 → Hp → Prop} {P : Nat → List AV → List AV → Hp → Prop} (hP : Cl (Call (d + 4)) 176 (fun v h' => ∃ x, v = some (vI x) ∧ K x h') P) (Sh : RSh H) (hB : Byt tx) : ∀ (f p : Nat) (D : List Bod) (G h : Hp) (w1 w2 : AV), f + D.length = 13 → RtN G h 0 1 n tx p → RpG G 5 D D.length → EqX XR H G → (fl D).length ≤ p → (∀ G' h' p', pckS tx n f D p = (none, p') → RtN G' h' 0 1 n tx p' → EqX XR H G' → K 0 h') → (∀ G' h' p' D', pckS tx n f D p = (some D', p') → RtN G' h' 0 1 n tx p' → RpG G' 5 D' D'.length → EqX XR H G' → K 1 h') → P 18 [vR 11 (some 0), w1, w2] [] h
  | 0, p, D, G, h, w1, w2, hfD, R, Q, E, hlen, k0, k1 => by have := Q.1; omega
  | f + 1, p, D, G, h, w1, w2, hfD, R, Q, E, hlen, k0, k1 => by
    have h12 := Q.1
    have hp : p ≤ n := R.2.2.1
    have hn : n ≤ 240 := R.2.1.1
    have b0 := rt_end R.2
    have SG := E.sh Sh
    have S0 : RSh h := SG.of R.R R.len
    have i5 : ix (5 : Int32) = 5 := by decide
    refine v176_18 hP 0 w1 w2 h ⟨fun c => ⟨_, rfl, k1 _ _ p D (by rw [pckS_eq, if_pos (b0.mp c)]) R Q E⟩, fun c => ?_⟩
    have n200 : ¬ kd tx n p = 200 := fun z => c (b0.mpr z)
    have c0 := fun G' h' p' (e : bodS tx n D p = (none, p')) => k0 G' h' p' (pckS_n n200 e)
    have c1 := fun b p' (e : bodS tx n D p = (some b, p')) => pckS_s (f := f) n200 e
    have k0' := k0
    clear k0
    unfold bodS at c0 c1
    have g0 := np_gt hp n200
    refine s133 (i := 82) R.2 (by decide +kernel) ⟨fun z => ⟨_, rfl, c0 _ _ p (by rw [if_neg (fun y => bi0.mp z y.2)]) R E⟩, fun z => dr_of S0.r18 ⟨by rw [S0.n18]; exact vp_in_nI (n := 5) (by decide) (by decide), fun c12 => ?_, fun c12 => ⟨_, rfl, c0 _ _ p ?_ R E⟩⟩⟩
    · have z : kd tx n p = 82 := Classical.not_not.mp (fun y => z (bi0.mpr y))
      have hb : jI h 21 4 5 = nI D.length := by rw [R.I (by decide)]; exact Q.2.2.1
      have d12 : D.length < 12 := by
        rcases Nat.lt_or_ge D.length 12 with y | y
        · exact y
        · exact absurd (by rw [hb, show D.length = 12 by omega]; rfl) c12
      rw [if_pos ⟨d12, z⟩] at c0 c1
      refine s125n R (fun h1 R1 => ?_)
      have ri := rule_i R1.2
      by_cases cr : nmN tx n 1 (np tx n p) < 4
      · obtain ⟨t1, t2, t3⟩ := ri.mp cr
        have tv := rule_v R1.2 cr
        rw [if_pos cr] at c0 c1
        refine ⟨fun y => absurd t1 y, fun _ => ⟨fun y => absurd t2 y, fun _ => ⟨fun _ => ?_, fun y => absurd t3 y⟩⟩⟩
        rw [tv]
        refine s125n R1 (fun h2 R2 => s134 (i := 77) R2 (by decide +kernel) (fun c77 h3 R3 => ⟨fun _ => s144 R3.2 ?_, fun y => absurd (by decide) y⟩) (fun c77 => ⟨fun y => absurd rfl y, fun _ => ⟨_, rfl, c0 _ _ _ (by rw [if_neg c77]) R2 E⟩⟩))
        rw [if_pos c77] at c0 c1
        unfold kiS
        have x1 := np_ge (tx := tx) R1.2.2.1
        have x2 := np_ge (tx := tx) R2.2.2.1
        generalize hp3 : np tx n (np tx n (np tx n p)) = p3 at R3 c0 c1 x2 ⊢
        have hp3n : p3 ≤ n := R3.2.2.1
        by_cases c5 : 9 ≤ kd tx n p3 ∧ kd tx n p3 < 40
        · rw [if_pos c5]
          have hbb : ∀ i, fnd D (nI (nmN tx n 1 (np tx n p))) (nI (kd tx n p3 - 9)) 0 = some i → i < 2 ^ 30 := fun i e => by
            have := fnd_lt e
            omega
          refine ⟨fun y => absurd y (nI_m1 (by omega)), fun _ => s177 (o := 5) (SG.of R3.R R3.len) (by decide) (Q.tk R3) ⟨fun c6 => ?_, fun c6 => ⟨_, rfl, c0 _ _ _ (if_neg (fun y => c6 ((mR_m1 hbb).mpr y.2.2))) R3 E⟩⟩⟩
          have c6 := (mR_m1 hbb).mp c6
          rw [if_pos ⟨c5.1, c5.2, c6⟩] at c0 c1
          have g3 := np_gt hp3n (show ¬ kd tx n p3 = 200 by omega)
          refine s125n R3 (fun h4 R4 => ?_)
          have b58 := rt_byte (c := 58) R4.2 hB (by decide) (by decide) (by decide)
          have hp4 : np tx n p3 ≤ n := R4.2.2.1
          by_cases c8 : kd tx n (np tx n p3) = 358
          · rw [if_pos c8] at c0 c1
            have g4 := np_gt hp4 (show ¬ kd tx n (np tx n p3) = 200 by omega)
            refine ⟨fun _ => s125n R4 (fun h5 R5 => ?_), fun y => absurd (b58.mpr c8) y⟩
            have q3 : jI h5 21 4 5 = nI D.length := by rw [R5.I (by decide)]; exact Q.2.2.1
            have q4 : jI h5 21 5 5 = nI (fl D).length := by rw [R5.I (by decide)]; exact Q.2.2.2.1
            refine s115 (o := 5) (SG.of R5.R R5.len) (by decide) q3 d12 q4 ?_
            have R6 : RtN (bgH G 5 D.length (fl D).length (nI (nmN tx n 1 (np tx n p))) (nI (kd tx n p3 - 9))) (bgH h5 5 D.length (fl D).length (nI (nmN tx n 1 (np tx n p))) (nI (kd tx n p3 - 9))) 0 1 n tx (np tx n (np tx n p3)) := ((((R5.wI (t := 21) 6 _ _ (by decide) (by decide)).wI (t := 21) 7 _ _ (by decide) (by decide)).wI (t := 21) 8 _ _ (by decide) (by decide)).wI (t := 21) 9 _ _ (by decide) (by decide)).wI (t := 21) 4 _ _ (by decide) (by decide)
            have E6 : EqX XR H (bgH G 5 D.length (fl D).length (nI (nmN tx n 1 (np tx n p))) (nI (kd tx n p3 - 9))) := ((((E.wI _ (Or.inl ⟨rfl, Or.inr (Or.inl ⟨by decide, by decide, by omega⟩)⟩)).wI _ (Or.inl ⟨rfl, Or.inr (Or.inl ⟨by decide, by decide, by omega⟩)⟩)).wI _ (Or.inl ⟨rfl, Or.inr (Or.inl ⟨by decide, by decide, by omega⟩)⟩)).wI _ (Or.inl ⟨rfl, Or.inr (Or.inl ⟨by decide, by decide, by omega⟩)⟩)).wI _ (Or.inl ⟨rfl, Or.inl ⟨Or.inl rfl, rfl⟩⟩)
            refine s178 Sh hB R6 (Q.beg d12 (Nat.le_refl _)) E6 (by omega) (fun G' h' p' e R' E' => ⟨fun y => absurd rfl y, fun _ => ⟨_, rfl, c0 _ _ p' (by rw [e]) R' E'⟩⟩) (fun G' h' p' C e R' Q' E' hpp h359 hl' => ⟨fun _ => ?_, fun y => absurd (by decide) y⟩)
            have el : (D ++ [(nmN tx n 1 (np tx n p), kd tx n p3 - 9, C)]).length = D.length + 1 := by rw [List.length_append]; rfl
            have S7 : RSh h' := (E'.sh Sh).of R'.R R'.len
            have q3' : jI h' 21 4 5 = nI (D.length + 1) := by rw [R'.I (by decide), ← el]; exact Q'.2.2.1
            have q4' : jI h' 21 5 5 = nI (fl (D ++ [(nmN tx n 1 (np tx n p), kd tx n p3 - 9, C)])).length := by rw [R'.I (by decide)]; exact Q'.2.2.2.1
            refine s117 (o := 5) S7 (by decide) q3' d12 q4' ?_
            have R8 := R'.wI (t := 21) 9 (12 * 5 + D.length) (nI (fl (D ++ [(nmN tx n 1 (np tx n p), kd tx n p3 - 9, C)])).length) (by decide) (by decide)
            refine s125n R8 (fun h8 R9 => ?_)
            have cc := c1 (nmN tx n 1 (np tx n p), kd tx n p3 - 9, C) (np tx n p') (by rw [e])
            have hp' : p' ≤ n := R'.2.2.1
            have g8 := np_gt hp' (show ¬ kd tx n p' = 200 by omega)
            have Q8 := Q'.ends
            rw [← el] at Q8
            rw [cc] at k1
            refine r18 hP Sh hB f (np tx n p') _ _ h8 _ _ (by rw [el]; omega) R9 Q8 (E'.wI _ (Or.inl ⟨rfl, Or.inr (Or.inl ⟨by decide, by decide, by omega⟩)⟩)) (by rw [fl_len]; omega) (fun G2 h2 p2 e2 => ?_) k1
            exact fun R2 E2 => k0' G2 h2 p2 (cc.trans e2) R2 E2
          · rw [if_neg c8] at c0
            exact ⟨fun y => absurd (b58.mp y) c8, fun _ => ⟨_, rfl, c0 _ _ _ rfl R4 E⟩⟩
        · rw [if_neg c5]
          exact ⟨fun _ => ⟨_, rfl, c0 _ _ _ (if_neg (fun y => c5 ⟨y.1, y.2.1⟩)) R3 E⟩, fun y => absurd rfl y⟩
      · rw [if_neg cr] at c0
        have kk := c0 _ _ _ rfl R1 E
        refine ⟨fun _ => ⟨_, rfl, kk⟩, fun y1 => ⟨fun _ => ⟨_, rfl, kk⟩, fun y2 => ⟨fun y3 => absurd (ri.mpr ⟨Classical.not_not.mp y1, Classical.not_not.mp y2, y3⟩) cr, fun _ => ⟨_, rfl, kk⟩⟩⟩⟩
    · have hb : jI h 21 4 5 = nI D.length := by rw [R.I (by decide)]; exact Q.2.2.1
      have c12 := Classical.not_not.mp c12
      rw [hb] at c12
      have := (nI_eq (a := D.length) (b := 12) (by omega) (by omega)).mp c12
      rw [if_neg (by omega)]
/-- packs() -/
theorem s176 {d n : Nat} {tx : Nat → Int32} {H : Hp} {K : Int32 → Hp → Prop} (T : RtX H 0 1 n tx) (hx : jI H 11 0 6 = nI 0) (Sh : RSh H) (hB : Byt tx) (k0 : ∀ G' h' p', pckS tx n 13 [] 0 = (none, p') → RtN G' h' 0 1 n tx p' → EqX XR H G' → K 0 h') (k1 : ∀ G' h' p' D', pckS tx n 13 [] 0 = (some D', p') → RtN G' h' 0 1 n tx p' → RpG G' 5 D' D'.length → EqX XR H G' → K 1 h') : CI (d + 5) 176 [vR 11 (some 0)] H K := by
  intro P hP
  have E2 : EqX XR H (wI (wI H 21 4 5 0) 21 5 5 0) := ((EqX.refl XR H).wI 0 (Or.inl ⟨rfl, Or.inl ⟨Or.inl rfl, rfl⟩⟩)).wI 0 (Or.inl ⟨rfl, Or.inl ⟨Or.inr rfl, rfl⟩⟩)
  have T2 : RtX (wI (wI H 21 4 5 0) 21 5 5 0) 0 1 n tx := by
    refine ⟨T.1, ?_, T.2.2.1, T.2.2.2.1, fun j hj => ?_⟩
    · rw [jI_t (by decide), jI_t (by decide)]; exact T.2.1
    · rw [jI_t (by decide), jI_t (by decide)]; exact T.2.2.2.2 j hj
  refine v176 hP 0 H (dr_of Sh.r18 ⟨by rw [Sh.n18]; exact vp_in_nI (n := 5) (by decide) (by decide), dr_of Sh.r19 ⟨?_, s125i (p := 0) T2 ?_ (Nat.zero_le _) (fun h1 R1 => ?_)⟩⟩)
  · show vp_in 5 (jLen H 21 5); rw [Sh.n19]; exact vp_in_nI (n := 5) (by decide) (by decide)
  · rw [jI_t (by decide), jI_t (by decide)]; exact hx
  · refine r18 hP Sh hB 13 0 [] _ h1 un un rfl R1 ⟨by decide, by decide, ?_, jI_same _ _ _ _ _, (fun i b e => by cases e), (fun j x e => by cases e)⟩ E2 (Nat.le_refl _) k0 k1
    rw [jI_a (by decide)]; exact jI_same _ _ _ _ _
