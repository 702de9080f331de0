/-! the reference's on, mark -/
theorem chaS_n {kd np : Nat → Nat} {pl m p p' : Nat} (z : ¬ nmK m (kd p) = 0) (e : chgS kd np (nmK m (kd p)) m p = (none, p')) : chaS kd np pl m p = (none, p') := by
  unfold chaS
  rw [if_neg z, e]
  rfl
theorem chaS_s {kd np : Nat → Nat} {pl m p p' : Nat} {r : Nat → Int32} (z : ¬ nmK m (kd p) = 0) (e : chgS kd np (nmK m (kd p)) m p = (some r, p')) : chaS kd np pl m p = (some (pl, r), p') := by
  unfold chaS
  rw [if_neg z, e]
  rfl
theorem s145 {d n k pl p : Nat} {tx : Nat → Int32} {H h : Hp} {sh : Nat → Int32} {K : Int32 → Hp → Prop} (R : RtN (rowH H k sh) h 0 1 n tx p) (S : RSh H) (hk : jI H 11 0 11 = nI k) (hk60 : k ≤ 60) (hpl : pl < 7) (hem : ∀ i, i < 9 → sh (3 + 9 * pl + i) = emR i) (kn : ¬ kd tx n p = 79 → K 1 h) (k0 : kd tx n p = 79 → ∀ sh' h' p', onS (kd tx n) (np tx n) pl (np tx n p) = (none, p') → RtN (rowH H k sh') h' 0 1 n tx p' → K 0 h') (k1 : kd tx n p = 79 → ∀ r h' p', onS (kd tx n) (np tx n) pl (np tx n p) = (some (pl, r), p') → RtN (rowH H k (putS sh pl r)) h' 0 1 n tx p' → K 1 h') : CI (d + 5) 145 [vR 11 (some 0), vI (nI pl)] h K := by
  intro P hP
  refine v145 hP 0 (nI pl) h (s134 (i := 79) R (by decide +kernel) (fun c h1 R1 => ⟨fun _ => ?_, fun z => absurd (by decide) z⟩) (fun c => ⟨fun z => absurd rfl z, fun _ => ⟨_, rfl, kn c⟩⟩))
  have k0 := k0 c
  have k1 := k1 c
  unfold onS at k0 k1
  refine s134 (i := 80) R1 (by decide +kernel) (fun c2 h2 R2 => ⟨fun _ => s142 R2.2 ?_, fun z => absurd (by decide) z⟩) (fun c2 => ⟨fun z => absurd rfl z, fun _ => ⟨_, rfl, k0 _ _ _ (by rw [if_neg c2]) R1⟩⟩)
  rw [if_pos c2] at k0 k1
  unfold mnS
  by_cases c3 : 54 ≤ kd tx n (np tx n (np tx n p)) ∧ kd tx n (np tx n (np tx n p)) < 60
  · rw [if_pos c3] at k0 k1
    rw [if_pos c3]
    refine ⟨fun _ => s125n R2 (fun h3 R3 => s146 R3.2 (by omega) ?_), fun z => absurd (nI_ne0 (by omega) (by omega)) z⟩
    rw [chS_K]
    by_cases c4 : nmK (kd tx n (np tx n (np tx n p)) - 53) (kd tx n (np tx n (np tx n (np tx n p)))) = 0
    · rw [if_pos c4]
      exact ⟨fun _ => ⟨_, rfl, k0 _ _ _ (by unfold chaS; rw [if_pos c4]) R3⟩, fun z => absurd rfl z⟩
    · rw [if_neg c4]
      have hb := nmK_b (kd tx n (np tx n (np tx n p)) - 53) (kd tx n (np tx n (np tx n (np tx n p))))
      refine ⟨fun z => absurd z (nI_m1 (by omega)), fun _ => s148 R3 S hk hk60 hpl hem (by omega) (by omega) (fun sh' h' p' e R' => ⟨fun _ => ⟨_, rfl, k0 _ _ _ (chaS_n c4 e) R'⟩, fun z => absurd rfl z⟩) (fun r h' p' e R' => ⟨fun z => absurd z (by decide), fun _ => ⟨_, rfl, k1 _ _ _ (chaS_s c4 e) R'⟩⟩)⟩
  · rw [if_neg c3] at k0
    rw [if_neg c3]
    exact ⟨fun z => absurd rfl z, fun _ => ⟨_, rfl, k0 _ _ _ rfl R2⟩⟩
def mrkN (t : Nat) : Nat := [30, 25, 24, 20, 26, 22, 21].getD t 0
/-- the mark's kind behind t of the seven marks -/
def mfS (c : Nat) : Nat → Int32
  | 0 => -1
  | t + 1 => if c = 9 + mrkN t then nI (mrkN t) else mfS c t
theorem mrk_all : (List.range 7).all (fun t => decide (mrkL.getD t 0 = nI (mrkN t)) && decide (mrkN t ≤ 30)) = true := by decide +kernel
theorem mrk_t {t : Nat} (h : t < 7) : mrkL.getD t 0 = nI (mrkN t) ∧ mrkN t ≤ 30 := by
  have := all_r mrk_all h
  simp only [Bool.and_eq_true, decide_eq_true_eq] at this
  exact this
theorem mfS_7 (c : Nat) : mfS c 7 = if isM c = true then nI (c - 9) else -1 := by
  rcases Nat.lt_or_ge c 40 with z | z
  · have : (List.range 40).all (fun c => decide (mfS c 7 = if isM c = true then nI (c - 9) else -1)) = true := by decide +kernel
    exact of_decide_eq_true (all_r this z)
  · have e1 : isM c = false := by
      unfold isM
      simp only [Bool.or_eq_false_iff, beq_eq_false_iff_ne, ne_eq]
      omega
    have hm : ∀ t, t < 7 → ¬ c = 9 + mrkN t := fun t ht => by have := (mrk_t ht).2; omega
    rw [e1]
    unfold mfS
    rw [if_neg (hm 6 (by decide))]
    unfold mfS
    rw [if_neg (hm 5 (by decide))]
    unfold mfS
    rw [if_neg (hm 4 (by decide))]
    unfold mfS
    rw [if_neg (hm 3 (by decide))]
    unfold mfS
    rw [if_neg (hm 2 (by decide))]
    unfold mfS
    rw [if_neg (hm 1 (by decide))]
    unfold mfS
    rw [if_neg (hm 0 (by decide))]
    rfl
theorem m57 {d n p : Nat} {tx : Nat → Int32} {h : Hp} {Q : Option AV → Hp → Prop} {P : Nat → List AV → List AV → Hp → Prop} (hP : Cl (Call (d + 1)) 139 Q P) (R : RtAt h 0 1 n tx p) (kk : P 57 [vR 11 (some 0), vI (mfS (kd tx n p) 7), vI 7] [] h) : ∀ mm t, t + mm = 7 → P 57 [vR 11 (some 0), vI (mfS (kd tx n p) t), vI (nI t)] [] h
  | 0, t, ht => by
    have e : t = 7 := by omega
    subst e
    exact kk
  | mm + 1, t, ht => by
    have mt := mrk_t (t := t) (by omega)
    refine v139_57 hP 0 (mfS (kd tx n p) t) (nI t) h ⟨fun c => absurd c (nI_ge (b := 7) (by omega) (by omega)), fun _ => s140 (by omega) (by omega) ?_⟩
    rw [mt.1]
    refine s141 (by omega) (by omega) (s133 R (all_r kin_w (by omega)) ⟨fun c => ?_, fun c => s140 (by omega) (by omega) ?_⟩)
    · have c := bi0.mp c
      have ih := m57 hP R kk mm (t + 1) (by omega)
      unfold mfS at ih
      rw [if_neg c] at ih
      rw [nI_1]
      exact ih
    · have c : kd tx n p = 9 + mrkN t := Classical.not_not.mp (fun y => c (bi0.mpr y))
      have ih := m57 hP R kk mm (t + 1) (by omega)
      unfold mfS at ih
      rw [if_pos c] at ih
      rw [nI_1, mt.1]
      exact ih
/-- mark() -/
theorem s139 {d n k p : Nat} {tx : Nat → Int32} {H h : Hp} {sh : Nat → Int32} {K : Int32 → Hp → Prop} (R : RtN (rowH H k sh) h 0 1 n tx p) (S : RSh H) (hk : jI H 11 0 11 = nI k) (hk60 : k ≤ 60) (hem : ∀ i, i < 9 → sh (3 + 9 * 6 + i) = emR i) (k0 : ∀ sh' h' p', marS (kd tx n) (np tx n) (np tx n p) = (none, p') → RtN (rowH H k sh') h' 0 1 n tx p' → K (-1) h') (k1 : ∀ r h' p', marS (kd tx n) (np tx n) (np tx n p) = (some (6, r), p') → RtN (rowH H k (putS sh 6 r)) h' 0 1 n tx p' → K 6 h') : CI (d + 4) 139 [vR 11 (some 0)] h K := by
  intro P hP
  refine v139 hP 0 h (s125n R (fun h1 R1 => ?_))
  have hw := rt_word (i := 81) R1.2 (by decide)
  rw [show hdW (VOC.getD 81 []) = 7235426866322105710 by decide +kernel, show tlW (VOC.getD 81 []) = 25445 by decide +kernel] at hw
  unfold marS at k0 k1
  by_cases c : kd tx n (np tx n p) = 81
  · rw [if_pos c] at k0 k1
    have w := hw.mpr c
    refine ⟨fun z => absurd w.1 z, fun _ => ⟨fun z => absurd ((lg_cmp_eq _ _).mpr w.2.1) z, fun _ => ⟨fun _ => s125n R1 (fun h2 R2 => s134 (i := 54) R2 (by decide +kernel) (fun c2 h3 R3 => ⟨fun _ => ?_, fun z => absurd (by decide) z⟩) (fun c2 => ⟨fun z => absurd rfl z, fun _ => ⟨_, rfl, k0 _ _ _ (by rw [if_neg c2]) R2⟩⟩)), fun z => absurd ((lg_cmp_eq _ _).mpr w.2.2) z⟩⟩⟩
    rw [if_pos c2] at k0 k1
    refine m57 (t := 0) hP R3.2 ?_ 7 rfl
    rw [mfS_7]
    refine v139_57 hP 0 _ 7 h3 ⟨fun _ => ?_, fun z => absurd (by decide) z⟩
    by_cases c3 : isM (kd tx n (np tx n (np tx n (np tx n p)))) = true
    · rw [if_pos c3] at k0 k1
      rw [if_pos c3]
      have hb : 29 ≤ kd tx n (np tx n (np tx n (np tx n p))) ∧ kd tx n (np tx n (np tx n (np tx n p))) ≤ 39 := by
        unfold isM at c3
        simp only [Bool.or_eq_true, beq_iff_eq] at c3
        omega
      refine ⟨fun _ => s125n R3 (fun h4 R4 => ?_), fun z => absurd (nI_m1 (by omega)) z⟩
      unfold plaS at k0 k1
      rw [← put_self hem] at R4
      refine s130 R4 (fun c4 => ?_) (fun c4 h5 R5 => ?_)
      · exact s138 (pl := 6) R4 S hk hk60 (by decide) (fun h6 R6 => ⟨fun z => absurd rfl z, fun _ => ⟨_, rfl, k0 _ _ _ (by rw [if_neg c4]) R6⟩⟩)
      · exact s138 (pl := 6) R5 S hk hk60 (by decide) (fun h6 R6 => ⟨fun _ => ⟨_, rfl, k1 _ _ _ (by rw [if_pos c4]) R6⟩, fun z => absurd (nI_m1 (by omega)) z⟩)
    · rw [if_neg c3] at k0
      rw [if_neg c3]
      exact ⟨fun z => absurd rfl z, fun _ => ⟨_, rfl, k0 _ _ _ rfl R3⟩⟩
  · rw [if_neg c] at k0
    have kk := k0 _ _ _ rfl R1
    exact ⟨fun _ => ⟨_, rfl, kk⟩, fun z0 => ⟨fun _ => ⟨_, rfl, kk⟩, fun z1 => ⟨fun z2 => absurd (hw.mp ⟨Classical.not_not.mp z0, (lg_cmp_eq _ _).mp (Classical.not_not.mp z1), (lg_cmp_eq _ _).mp z2⟩) c, fun _ => ⟨_, rfl, kk⟩⟩⟩⟩
