/-! the class's readCharges, readPlain, readOn, readBordure, readMark -/
theorem inS_N {j : Nat} (h : j < 2 ^ 30) : inS 16 29 (nI j) = decide (16 ≤ j ∧ j ≤ 29) := by
  unfold inS
  have e1 : decide (nI j < 16) = decide (j < 16) := decide_eq_decide.mpr (nI_ltI (b := 16) (by omega) (by omega))
  have e2 : decide ((29 : Int32) < nI j) = decide (29 < j) := decide_eq_decide.mpr (nI_ltI (a := 29) (by omega) (by omega))
  rw [e1, e2, ← decide_not, ← decide_not, ← Bool.decide_and]
  exact decide_eq_decide.mpr (by omega)
/-- charges behind their name -/
theorem f67 {d n a s pa pl p kind m : Nat} {tx : Nat → Int32} {H g : Hp} {X : Int32} {K : Int32 → Hp → Prop} (hX : X = nI kind) (R : TkN H g 0 a n tx (np tx n p)) (B : Bs H) (hs : jR H 7 s 3 = some pa) (hl : jLen H 33 pa = 7) (hpl : pl < 7) (h16 : 16 ≤ kind) (h29 : kind ≤ 29) (k0 : ∀ G' h' p' r', chgS (kd tx n) (np tx n) kind m p = (none, p') → TkN G' h' 0 a n tx p' → NewP H G' pa pl r' → K (-1) h') (k1 : ∀ G' h' p' r, chgS (kd tx n) (np tx n) kind m p = (some r, p') → TkN G' h' 0 a n tx p' → NewP H G' pa pl r → K (nI pl) h') : ∀ a8 h9, a8 = jN g 3 → h9 = mk g 3 0 6 → CV (d + 6) 22 [vR 3 (some a8), vI (nI pl), vI X, vI (nI m)] h9 (fun h10 => dr (some s) (fun a11 => CV (d + 6) 53 [vR 7 (some a11), vR 3 (some a8)] h10 (fun h12 => CI (d + 6) 68 [vR 8 (some 0), vR 3 (some a8)] h12 (fun x14 h13 => (x14 = 0 → (fun v h' => ∃ x, v = some (vI x) ∧ K x h') (some (vI (-1))) h13) ∧ (¬ x14 = 0 → CI (d + 6) 69 [vR 8 (some 0), vR 3 (some a8)] h13 (fun x16 h15 => (x16 = 0 → (fun v h' => ∃ x, v = some (vI x) ∧ K x h') (some (vI (-1))) h15) ∧ (¬ x16 = 0 → CI (d + 6) 70 [vR 8 (some 0), vR 3 (some a8)] h15 (fun x18 h17 => (x18 = 0 → (fun v h' => ∃ x, v = some (vI x) ∧ K x h') (some (vI (-1))) h17) ∧ (¬ x18 = 0 → (fun v h' => ∃ x, v = some (vI x) ∧ K x h') (some (vI (nI pl))) h17))))))))) := by
  intro a8 h9 e8 e9
  have e8' : a8 = jN H 3 := by rw [e8, R.N]
  subst e8'
  refine newP R hs hl hpl (fun H1 h1 R1 N1 => ?_) (jN H 3) h9 e8 e9
  rw [hX] at N1
  have hr0 : st (st emR 0 (nI kind)) 2 (nI m) 0 = nI kind := by rw [st_ne (by decide), st_eq]
  unfold chgS at k0 k1
  -- behind the attitude
  have tail : ∀ {r : Nat → Int32} {G h : Hp} {q : Nat}, r 0 = nI kind → TkN G h 0 a n tx q → NewP H G pa pl r → (∀ G' h' p' r', chg2 (kd tx n) (np tx n) kind q r = (none, p') → TkN G' h' 0 a n tx p' → NewP H G' pa pl r' → K (-1) h') → (∀ G' h' p' r', chg2 (kd tx n) (np tx n) kind q r = (some r', p') → TkN G' h' 0 a n tx p' → NewP H G' pa pl r' → K (nI pl) h') → CI (d + 6) 69 [vR 8 (some 0), vR 3 (some (jN H 3))] h (fun x16 h15 => (x16 = 0 → (fun v h' => ∃ x, v = some (vI x) ∧ K x h') (some (vI (-1))) h15) ∧ (¬ x16 = 0 → CI (d + 6) 70 [vR 8 (some 0), vR 3 (some (jN H 3))] h15 (fun x18 h17 => (x18 = 0 → (fun v h' => ∃ x, v = some (vI x) ∧ K x h') (some (vI (-1))) h17) ∧ (¬ x18 = 0 → (fun v h' => ∃ x, v = some (vI x) ∧ K x h') (some (vI (nI pl))) h17)))) := by
    intro r G h q hr R2 N2 j0 j1
    unfold chg2 at j0 j1
    refine s69 R2 N2 B (fun c G' h' r' R' N' => ⟨fun _ => ⟨_, rfl, j0 _ _ _ _ (by rw [if_neg c]) R' N'⟩, fun z => absurd rfl z⟩) (fun c G' h' R' N' => ⟨fun z => absurd z (by decide), fun _ => ?_⟩)
    rw [if_pos c] at j0 j1
    exact s70 R' N' B (by rw [st_ne (by decide)]; exact hr) h16 h29 (fun G2 h2 r2 p2 e2 R2 N2 => ⟨fun _ => ⟨_, rfl, j0 _ _ _ _ e2 R2 N2⟩, fun z => absurd rfl z⟩) (fun G2 h2 r2 p2 e2 R2 N2 => ⟨fun z => absurd z (by decide), fun _ => ⟨_, rfl, j1 _ _ _ _ e2 R2 N2⟩⟩)
  refine s68 R1 N1 B hr0 h16 h29 (fun c => ⟨fun z => absurd z (by decide), fun _ => ?_⟩) (fun c c2 => ⟨fun _ => ⟨_, rfl, k0 _ _ _ _ (by rw [if_pos c, if_neg c2]) R1 N1⟩, fun z => absurd rfl z⟩) (fun c c2 G' h' R' N' => ⟨fun z => absurd z (by decide), fun _ => ?_⟩)
  · rw [if_neg c] at k0 k1
    exact tail hr0 R1 N1 k0 k1
  · rw [if_pos c, if_pos c2] at k0 k1
    exact tail (by rw [st_ne (by decide)]; exact hr0) R' N' k0 k1
/-- readCharges(shield, place, number) -/
theorem s67 {d n a s pa pl p m : Nat} {tx : Nat → Int32} {H h : Hp} {K : Int32 → Hp → Prop} (R : TkN H h 0 a n tx p) (B : Bs H) (hs : jR H 7 s 3 = some pa) (hl : jLen H 33 pa = 7) (hpl : pl < 7) (hm : m < 2 ^ 20) (k0 : ∀ G' h' p', chaS (kd tx n) (np tx n) pl m p = (none, p') → TkN G' h' 0 a n tx p' → Fr (X33 pa pl) 2 11 H G' → K (-1) h') (k1 : ∀ G' h' p' r, chaS (kd tx n) (np tx n) pl m p = (some (pl, r), p') → TkN G' h' 0 a n tx p' → NewP H G' pa pl r → K (nI pl) h') : CI (d + 7) 67 [vR 8 (some 0), vR 7 (some s), vI (nI pl), vI (nI m)] h K := by
  intro P hP
  have e8 : ∀ {g : Hp} {q : Nat}, TkN H g 0 a n tx q → jR g 8 0 0 = some 0 := fun T => by rw [T.R]; exact B.2
  have bad : nmK m (kd tx n p) = 0 → ∃ x, some (vI (-1)) = some (vI x) ∧ K x h := fun c => ⟨_, rfl, k0 _ _ p (by unfold chaS; rw [if_pos c]) R ((Fr.refl _ H).le (by decide) (by decide))⟩
  refine v67 hP 0 (some s) (nI pl) (nI m) h ⟨fun c => dr_of (e8 R) (s81n R (by decide) (s90 ?_)), fun c => dr_of (e8 R) (s81n R (by decide) (s90 ?_))⟩
  · have c1 : ¬ m = 1 := fun z => c (by rw [z]; rfl)
    have ek : nmK m (kd tx n p) = if 40 ≤ kd tx n p ∧ kd tx n p < 54 then kd tx n p - 24 else 0 := if_neg c1
    rw [aT29]
    unfold rngS
    by_cases y : 40 ≤ kd tx n p ∧ kd tx n p < 54
    · rw [if_pos y] at ek
      rw [if_pos y]
      have e1 : (16 : Int32) + nI (kd tx n p - 40) = nI (kd tx n p - 24) := by
        show nI 16 + nI (kd tx n p - 40) = _
        rw [nI_add]; congr 1; omega
      have e2 : inS 16 29 (nI (kd tx n p - 24)) = true := by
        rw [inS_N (by omega)]
        exact decide_eq_true (by omega)
      have e3 : ∀ b : Bool, b = true → ¬ bi b = 0 := by decide
      refine ⟨fun _ => dr_of (e8 R) (s77n R (fun g Rg => ?_)), fun z => absurd (e3 _ (by rw [e1]; exact e2)) z⟩
      have nz : ¬ nmK m (kd tx n p) = 0 := by rw [ek]; omega
      exact f67 (kind := nmK m (kd tx n p)) (by rw [e1, ek]) Rg B hs hl hpl (by rw [ek]; omega) (by rw [ek]; omega) (fun G' h' p' r' e R' N' => k0 _ _ _ (chaS_n nz e) R' N'.1) (fun G' h' p' r e R' N' => k1 _ _ _ _ (chaS_s nz e) R' N')
    · rw [if_neg y] at ek
      rw [if_neg y]
      exact ⟨fun z => absurd (by decide) z, fun _ => bad ek⟩
  · have c1 : m = 1 := (nI_eq (a := m) (b := 1) (by omega) (by decide)).mp (Classical.not_not.mp c)
    have ek : nmK m (kd tx n p) = if 25 ≤ kd tx n p ∧ kd tx n p < 39 then kd tx n p - 9 else 0 := if_pos c1
    rw [aT22]
    unfold kiS
    by_cases y : 25 ≤ kd tx n p ∧ kd tx n p < 39
    · rw [if_pos y] at ek
      rw [if_pos (show 9 ≤ kd tx n p ∧ kd tx n p < 40 by omega)]
      have e2 : inS 16 29 (nI (kd tx n p - 9)) = true := by
        rw [inS_N (by omega)]
        exact decide_eq_true (by omega)
      have e3 : ∀ b : Bool, b = true → ¬ bi b = 0 := by decide
      refine ⟨fun _ => dr_of (e8 R) (s77n R (fun g Rg => ?_)), fun z => absurd (e3 _ e2) z⟩
      have nz : ¬ nmK m (kd tx n p) = 0 := by rw [ek]; omega
      exact f67 (kind := nmK m (kd tx n p)) (by rw [ek]) Rg B hs hl hpl (by rw [ek]; omega) (by rw [ek]; omega) (fun G' h' p' r' e R' N' => k0 _ _ _ (chaS_n nz e) R' N'.1) (fun G' h' p' r e R' N' => k1 _ _ _ _ (chaS_s nz e) R' N')
    · rw [if_neg y] at ek
      have e3 : ∀ b : Bool, b = false → bi b = 0 := by decide
      refine ⟨fun z => absurd (e3 _ ?_) z, fun _ => bad ek⟩
      by_cases w : 9 ≤ kd tx n p ∧ kd tx n p < 40
      · rw [if_pos w, inS_N (by omega)]
        exact decide_eq_false (by omega)
      · rw [if_neg w]; decide
/-- readPlain(shield, place, kind) -/
theorem s73 {d n a s pa pl p kind : Nat} {tx : Nat → Int32} {H h : Hp} {K : Int32 → Hp → Prop} (R : TkN H h 0 a n tx p) (B : Bs H) (hs : jR H 7 s 3 = some pa) (hl : jLen H 33 pa = 7) (hpl : pl < 7) (k0 : ∀ G' h' p', plaS (kd tx n) (np tx n) pl kind p = (none, p') → TkN G' h' 0 a n tx p' → Fr (X33 pa pl) 2 11 H G' → K (-1) h') (k1 : ∀ G' h' p' r, plaS (kd tx n) (np tx n) pl kind p = (some (pl, r), p') → TkN G' h' 0 a n tx p' → NewP H G' pa pl r → K (nI pl) h') : CI (d + 6) 73 [vR 8 (some 0), vR 7 (some s), vI (nI pl), vI (nI kind)] h K := by
  intro P hP
  refine v73 hP 0 (some s) (nI pl) (nI kind) h (fun a1 h2 e1 e2 => ?_)
  have e1' : a1 = jN H 3 := by rw [e1, R.N]
  subst e1'
  unfold plaS at k0 k1
  refine newP R hs hl hpl (fun H1 h1 R1 N1 => ?_) (jN H 3) h2 e1 e2
  refine s69 R1 N1 B (fun c G' h' r' R' N' => ⟨fun _ => ⟨_, rfl, k0 _ _ _ (by rw [if_neg c]) R' N'.1⟩, fun z => absurd rfl z⟩) (fun c G' h' R' N' => ⟨fun z => absurd z (by decide), fun _ => ⟨_, rfl, k1 _ _ _ _ (by rw [if_pos c]) R' ?_⟩⟩)
  have e : st (st (st emR 0 (nI kind)) 2 1) 1 (nI (kd tx n p)) = st (st (st emR 0 (nI kind)) 1 (nI (kd tx n p))) 2 1 := by
    funext j
    unfold st
    by_cases z1 : j = 1
    · rw [if_pos z1, if_neg (by omega)]
      exact (if_pos z1).symm
    · rw [if_neg z1]
      by_cases z2 : j = 2
      · rw [if_pos z2]
        exact (if_pos z2).symm
      · rw [if_neg z2]
        show _ = (if j = 2 then (1 : Int32) else if j = 1 then nI (kd tx n p) else if j = 0 then nI kind else emR j)
        rw [if_neg z2, if_neg z1]
  rw [← e]
  exact N'
theorem one1 {c : Nat} {c0 : Nat} (h : c = c0) : oneS c0 c = 0 := if_pos h
/-- readOn(shield, place) -/
theorem s66 {d n a s pa pl p : Nat} {tx : Nat → Int32} {H h : Hp} {K : Int32 → Hp → Prop} (R : TkN H h 0 a n tx p) (B : Bs H) (hs : jR H 7 s 3 = some pa) (hl : jLen H 33 pa = 7) (hpl : pl < 7) (k0 : ∀ G' h' p', onS (kd tx n) (np tx n) pl p = (none, p') → TkN G' h' 0 a n tx p' → Fr (X33 pa pl) 2 11 H G' → K (-1) h') (k1 : ∀ G' h' p' r, onS (kd tx n) (np tx n) pl p = (some (pl, r), p') → TkN G' h' 0 a n tx p' → NewP H G' pa pl r → K (nI pl) h') : CI (d + 8) 66 [vR 8 (some 0), vR 7 (some s), vI (nI pl)] h K := by
  intro P hP
  have e8 : ∀ {g : Hp} {q : Nat}, TkN H g 0 a n tx q → jR g 8 0 0 = some 0 := fun T => by rw [T.R]; exact B.2
  have F0 : Fr (X33 pa pl) 2 11 H H := (Fr.refl _ H).le (by decide) (by decide)
  unfold onS at k0 k1
  refine v66 hP 0 (some s) (nI pl) h (dr_of (e8 R) (s79w (by decide) aT23 R (fun c => ⟨fun z => absurd rfl z, fun _ => ⟨_, rfl, k0 _ _ _ (by rw [if_neg c]) R F0⟩⟩) (fun c h2 R2 => ⟨fun _ => dr_of (e8 R2) ?_, fun z => absurd (by decide) z⟩)))
  rw [if_pos c] at k0 k1
  have e24 := aT24 (kd tx n (np tx n p))
  unfold rngS at e24
  refine s80n R2 (by decide) (fun c2 => ⟨fun _ => ⟨_, rfl, k0 _ _ _ (if_neg (fun z => ?_)) R2 F0⟩, fun z => absurd (by decide) z⟩) (fun c2 h3 R3 => ?_)
  · rw [e24, if_pos z] at c2
    exact nI_m1 (by omega) c2
  · have c3 : 54 ≤ kd tx n (np tx n p) ∧ kd tx n (np tx n p) < 60 := by
      rcases Nat.lt_or_ge (kd tx n (np tx n p)) 54 with y | y
      · rw [e24, if_neg (by omega)] at c2; exact absurd rfl c2
      · rcases Nat.lt_or_ge (kd tx n (np tx n p)) 60 with y2 | y2
        · exact ⟨y, y2⟩
        · rw [e24, if_neg (by omega)] at c2; exact absurd rfl c2
    rw [if_pos c3] at k0 k1
    rw [e24, if_pos c3, nI_1, show kd tx n (np tx n p) - 54 + 1 = kd tx n (np tx n p) - 53 by omega]
    exact ⟨fun z => absurd z (nI_nle (by omega) (by omega)), fun _ => s67 R3 B hs hl hpl (by omega) (fun G' h' p' e R' F => ⟨_, rfl, k0 _ _ _ e R' F⟩) (fun G' h' p' r e R' N => ⟨_, rfl, k1 _ _ _ _ e R' N⟩)⟩
/-- readBordure(shield) -/
theorem s72 {d n a s pa p : Nat} {tx : Nat → Int32} {H h : Hp} {K : Int32 → Hp → Prop} (R : TkN H h 0 a n tx p) (B : Bs H) (hs : jR H 7 s 3 = some pa) (hl : jLen H 33 pa = 7) (k0 : ∀ G' h' p', borS (kd tx n) (np tx n) p = (none, p') → TkN G' h' 0 a n tx p' → Fr (X33 pa 5) 2 11 H G' → K (-1) h') (k1 : ∀ G' h' p' r, borS (kd tx n) (np tx n) p = (some (5, r), p') → TkN G' h' 0 a n tx p' → NewP H G' pa 5 r → K (nI 5) h') : CI (d + 7) 72 [vR 8 (some 0), vR 7 (some s)] h K := by
  intro P hP
  have e8 : ∀ {g : Hp} {q : Nat}, TkN H g 0 a n tx q → jR g 8 0 0 = some 0 := fun T => by rw [T.R]; exact B.2
  have F0 : Fr (X33 pa 5) 2 11 H H := (Fr.refl _ H).le (by decide) (by decide)
  unfold borS at k0 k1
  refine v72 hP 0 (some s) h (dr_of (e8 R) (s79w (by decide) aT25 R (fun c => ⟨fun _ => ⟨_, rfl, k0 _ _ _ (by rw [if_neg c]) R F0⟩, fun z => absurd rfl z⟩) (fun c h2 R2 => ⟨fun z => absurd z (by decide), fun _ => dr_of (e8 R2) ?_⟩)))
  rw [if_pos c] at k0 k1
  refine s79w (by decide) aT26 R2 (fun c2 => ⟨fun _ => ⟨_, rfl, k0 _ _ _ (by rw [if_neg c2]) R2 F0⟩, fun z => absurd rfl z⟩) (fun c2 h3 R3 => ⟨fun z => absurd z (by decide), fun _ => ?_⟩)
  rw [if_pos c2] at k0 k1
  exact s73 (pl := 5) (kind := 15) R3 B hs hl (by decide) (fun G' h' p' e R' F => ⟨_, rfl, k0 _ _ _ e R' F⟩) (fun G' h' p' r e R' N => ⟨_, rfl, k1 _ _ _ _ e R' N⟩)
theorem mkS_m1 (c : Nat) : mkS c = -1 ↔ ¬ isM c = true := by
  rcases Nat.lt_or_ge c 40 with z | z
  · have : (List.range 40).all (fun c => decide (mkS c = -1 ↔ ¬ isM c = true)) = true := by decide +kernel
    exact of_decide_eq_true (all_r this z)
  · have e1 : isM c = false := by
      unfold isM
      simp only [Bool.or_eq_false_iff, beq_eq_false_iff_ne, ne_eq]
      omega
    rw [e1]
    unfold mkS
    rw [if_neg (by omega), if_neg (by omega), if_neg (by omega), if_neg (by omega), if_neg (by omega), if_neg (by omega), if_neg (by omega)]
    exact ⟨fun _ => by decide, fun _ => rfl⟩
/-- readMark(shield) -/
theorem s74 {d n a s pa p : Nat} {tx : Nat → Int32} {H h : Hp} {K : Int32 → Hp → Prop} (R : TkN H h 0 a n tx p) (B : Bs H) (hs : jR H 7 s 3 = some pa) (hl : jLen H 33 pa = 7) (k0 : ∀ G' h' p', marS (kd tx n) (np tx n) p = (none, p') → TkN G' h' 0 a n tx p' → Fr (X33 pa 6) 2 11 H G' → K (-1) h') (k1 : ∀ G' h' p' r, marS (kd tx n) (np tx n) p = (some (6, r), p') → TkN G' h' 0 a n tx p' → NewP H G' pa 6 r → K (nI 6) h') : CI (d + 7) 74 [vR 8 (some 0), vR 7 (some s)] h K := by
  intro P hP
  have e8 : ∀ {g : Hp} {q : Nat}, TkN H g 0 a n tx q → jR g 8 0 0 = some 0 := fun T => by rw [T.R]; exact B.2
  have F0 : Fr (X33 pa 6) 2 11 H H := (Fr.refl _ H).le (by decide) (by decide)
  unfold marS at k0 k1
  refine v74 hP 0 (some s) h (dr_of (e8 R) (s79w (by decide) aT27 R (fun c => ⟨fun _ => ⟨_, rfl, k0 _ _ _ (by rw [if_neg c]) R F0⟩, fun z => absurd rfl z⟩) (fun c h2 R2 => ⟨fun z => absurd z (by decide), fun _ => dr_of (e8 R2) ?_⟩)))
  rw [if_pos c] at k0 k1
  refine s79w (by decide) aT25 R2 (fun c2 => ⟨fun z => absurd rfl z, fun _ => ⟨_, rfl, k0 _ _ _ (by rw [if_neg c2]) R2 F0⟩⟩) (fun c2 h3 R3 => ⟨fun _ => dr_of (e8 R3) (s81n R3 (by decide) (dr_of (e8 R3) ?_)), fun z => absurd (by decide) z⟩)
  rw [if_pos c2] at k0 k1
  have e28 := aT28 (kd tx n (np tx n (np tx n p)))
  refine s79n R3 (by decide) (fun c3 => ⟨fun _ => ⟨_, rfl, k0 _ _ _ (if_neg ((mkS_m1 _).mp (e28.symm.trans c3))) R3 F0⟩, fun z => absurd rfl z⟩) (fun c3 h4 R4 => ⟨fun z => absurd z (by decide), fun _ => ?_⟩)
  have c4 : isM (kd tx n (np tx n (np tx n p))) = true := Classical.not_not.mp (fun z => c3 (e28.trans ((mkS_m1 _).mpr z)))
  rw [if_pos c4] at k0 k1
  have hb : 29 ≤ kd tx n (np tx n (np tx n p)) ∧ kd tx n (np tx n (np tx n p)) ≤ 39 := by
    unfold isM at c4
    simp only [Bool.or_eq_true, beq_iff_eq] at c4
    omega
  have e22 : amT 22 (kd tx n (np tx n (np tx n p))) = nI (kd tx n (np tx n (np tx n p)) - 9) := by
    rw [aT22]; unfold kiS; rw [if_pos (by omega)]
  rw [e22]
  exact s73 (pl := 6) R4 B hs hl (by decide) (fun G' h' p' e R' F => ⟨_, rfl, k0 _ _ _ e R' F⟩) (fun G' h' p' r e R' N => ⟨_, rfl, k1 _ _ _ _ e R' N⟩)
