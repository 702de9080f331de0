/-! the reference's quarterings, person, marry, family -/
section
variable {n ns : Nat} {mn : Nat → Bool} {pr : Nat → Option (Nat × Nat)} {sd : Nat → Nat} {mr : Nat → Option Nat}
theorem c209 {d last : Nat} {h0 : Hp} {K : Hp → Prop} {P : Nat → List AV → List AV → Hp → Prop} (hP : Cl (Call (d + 1)) 209 (fun v h' => v = none ∧ K h') P) (S : RSh h0) (V : PsV n mn pr sd mr ns) (Q : PeR h0 n mn pr sd mr) (hl : last < n) (k : ∀ h', EqX XKa h0 h' → (∀ j, j ≤ last → QstR h' j (qT mn pr sd n (last + 1) j)) → K h') : ∀ (mm p : Nat) (h : Hp), p + mm = last + 1 → EqX XKa h0 h → (∀ j, j < p → QstR h j (qT mn pr sd n p j)) → P 2 [vR 11 (some 0), vI (nI last), vI (nI p)] [] h
  | 0, p, h, hp, E, T => by
    have hpl : p = last + 1 := by omega
    subst hpl
    have hn := V.1
    exact v209_2 hP 0 (nI last) _ h ⟨fun _ => ⟨rfl, k h E (fun j hj => T j (by omega))⟩, fun c => absurd (nI_lt (by omega) (by omega)) c⟩
  | mm + 1, p, h, hp, E, T => by
    have hn := V.1
    have hpn : p < n := by omega
    have ip : ix (nI p) = p := nI_clamp (by omega)
    have S1 : RSh h := E.sh S
    have Q1 : PeR h n mn pr sd mr := Q.ka E
    obtain ⟨b1, b2, b3, b4, b5⟩ := Q1.2 p hpn
    have ok := qT_ok V p (by omega)
    have fin : ∀ h' : Hp, EqX (XK p) h h' → QstR h' p (qT mn pr sd n (p + 1) p) → P 2 [vR 11 (some 0), vI (nI last), vI (nI p + 1)] [] h' := fun h' E' Q' => by
      rw [nI_1]
      refine c209 hP S V Q hl k mm (p + 1) h' (by omega) (E.trans (E'.sub xka)) (fun j hj => ?_)
      by_cases z : j = p
      · rw [z]; exact Q'
      · rw [show qT mn pr sd n (p + 1) j = qT mn pr sd n p j from if_neg z]
        exact (T j (by omega)).eq E' (fun y => by rcases y.2 with w | w; omega; omega) (fun i hi y => by rcases y.2 with w | w; omega; omega)
    have E0 : EqX (XK p) h (wI h 21 23 p 0) := (EqX.refl _ h).wI _ ⟨rfl, Or.inr ⟨rfl, rfl⟩⟩
    have M0 : QstR (wI h 21 23 p 0) p [] := ⟨Nat.zero_le _, jI_same .., fun j x e => by cases e⟩
    have S2 : RSh (wI h 21 23 p 0) := E0.sh S1
    have Q2 : PeR (wI h 21 23 p 0) n mn pr sd mr := Q1.ka (E0.sub xka)
    obtain ⟨d1, d2, d3, d4, d5⟩ := Q2.2 p hpn
    have T2 : ∀ j, j < p → QstR (wI h 21 23 p 0) j (qT mn pr sd n p j) := fun j hj => (T j hj).eq E0 (fun y => by rcases y.2 with w | w; omega; omega) (fun i hi y => by rcases y.2 with w | w; omega; omega)
    have v100 : ∀ g : Hp, ∀ a : Nat, jLen g 21 a = 100 → vp_in (nI p) (jLen g 21 a) := fun g a e => by rw [e]; exact vp_in_nI (by omega) (by decide)
    refine v209_2 hP 0 (nI last) (nI p) h ⟨fun c => absurd c (nI_nlt (by omega) (by omega)), fun _ => dr_of S1.r47 ⟨v100 _ _ S1.n47, ?_⟩⟩
    rw [ip]
    refine dr_of S2.r42 ⟨v100 _ _ S2.n42, fun c => ?_, fun c => ?_⟩
    · rw [d2] at c
      cases hq : pr p with
      | none =>
        have : faO pr p = none := by unfold faO; rw [hq]; rfl
        rw [this] at c
        exact absurd rfl c
      | some fm =>
        obtain ⟨f, m⟩ := fm
        have ef : faO pr p = some f := by unfold faO; rw [hq]; rfl
        have em : moO pr p = some m := by unfold moO; rw [hq]; rfl
        obtain ⟨u1, u2, u3, u4, u5⟩ := V.2.2.1 p hpn f m hq
        have hqT : qT mn pr sd n (p + 1) p = if heS mn pr n m = true then joQ (joQ [] (qT mn pr sd n p f)) (qT mn pr sd n p m) else joQ [] (qT mn pr sd n p f) := by
          rw [qT_eq]; unfold qO; rw [hq]
        refine dr_of S2.r42 ⟨v100 _ _ S2.n42, ?_⟩
        rw [d2, ef]
        refine s210 S2 (by omega) u1 M0 (T2 f u1) (ok f).2 (fun x hx => by cases hx) (fun h1 E1 M1 => ?_)
        have E01 : EqX (XK p) h h1 := E0.trans E1
        have S3 : RSh h1 := E1.sh S2
        have Q3 : PeR h1 n mn pr sd mr := Q2.ka (E1.sub xka)
        have e3 := (Q3.2 p hpn).2.2.1
        rw [em] at e3
        refine dr_of S3.r43 ⟨v100 _ _ S3.n43, ?_⟩
        rw [e3]
        refine s211 S3 V Q3 (show m < n by omega) ⟨fun c2 => fin h1 E01 ?_, fun c2 => dr_of S3.r43 ⟨v100 _ _ S3.n43, ?_⟩⟩
        · rw [bi_z] at c2
          rw [hqT, c2]
          exact M1
        · rw [bi_ne] at c2
          rw [e3]
          have j2 : ∀ x ∈ joQ [] (qT mn pr sd n p f), x < 60 := joQ_in (fun x hx => by cases hx) (ok f).2
          refine s210 S3 (by omega) u2 M1 ((T2 m u2).eq E1 (fun y => by rcases y.2 with w | w; omega; omega) (fun i hi y => by rcases y.2 with w | w; omega; omega)) (ok m).2 j2 (fun h2 E2 M2 => ?_)
          refine fin h2 (E01.trans E2) ?_
          rw [hqT, if_pos c2]
          exact M2
    · rw [d2] at c
      have hf : faO pr p = none := (mR_eq (b := none) (fa30 V hpn) (fun i z => by cases z)).mp (Classical.not_not.mp c)
      have hq : pr p = none := by
        cases hq : pr p with
        | none => rfl
        | some fm => unfold faO at hf; rw [hq] at hf; cases hf
      have e4 := d4 hq
      refine dr_of S2.r44 ⟨v100 _ _ S2.n44, ?_⟩
      rw [e4]
      have i32 : ix ((32 : Int32) * nI p) = 32 * p := by rw [q32a]; exact nI_clamp (by omega)
      refine dr_of S2.r46 ⟨by rw [S2.n46, q32a]; exact vp_in_nI (by omega) (by decide), ?_⟩
      rw [i32]
      have E3 : EqX (XK p) h (wI (wI h 21 23 p 0) 21 22 (32 * p) (nI (sd p))) := E0.wI _ ⟨rfl, Or.inl ⟨rfl, Nat.le_refl _, by omega⟩⟩
      have S3 : RSh (wI (wI h 21 23 p 0) 21 22 (32 * p) (nI (sd p))) := E3.sh S1
      refine dr_of S3.r47 ⟨v100 _ _ S3.n47, ?_⟩
      refine fin _ (E3.wI _ ⟨rfl, Or.inr ⟨rfl, rfl⟩⟩) ?_
      rw [qT_eq]
      unfold qO
      rw [hq]
      refine ⟨by show 1 ≤ 32; decide, jI_same .., fun j x e => ?_⟩
      rw [jI_a (by decide)]
      cases j with
      | zero =>
        have e2 : sd p = x := Option.some.inj e
        rw [← e2]
        exact jI_same ..
      | succ j => cases e
/-- quarterings(last) -/
theorem s209 {d last : Nat} {h : Hp} {K : Hp → Prop} (S : RSh h) (V : PsV n mn pr sd mr ns) (Q : PeR h n mn pr sd mr) (hl : last < n) (k : ∀ h', EqX XKa h h' → (∀ j, j ≤ last → QstR h' j (qT mn pr sd n (last + 1) j)) → K h') : CV (d + 2) 209 [vR 11 (some 0), vI (nI last)] h K :=
  fun P hP => v209 hP 0 (nI last) h (c209 (p := 0) hP S V Q hl k (last + 1) h (by omega) (EqX.refl _ h) (fun j hj => by omega))
/-- the sons before p -/
theorem c81 {d p f : Nat} {l2 : Int32} {h : Hp} {K : Int32 → Hp → Prop} {P : Nat → List AV → List AV → Hp → Prop} (hP : Cl (Call d) 208 (fun v h' => ∃ x, v = some (vI x) ∧ K x h') P) (S : RSh h) (V : PsV n mn pr sd mr ns) (Q : PeR h n mn pr sd mr) (hp : p < n) (hm : mn p = true) (hf : faO pr p = some f) (k : K (nI (sonN mn pr f p)) h) : ∀ mm q, q + mm = p → P 81 [vR 11 (some 0), vI (nI p), vI l2, vI (nI (sonN mn pr f q)), vI (nI q)] [] h
  | 0, q, hq => by
    have hqp : q = p := by omega
    subst hqp
    have hn := V.1
    exact v208_81 hP 0 (nI q) l2 _ (nI q) h ⟨fun _ => ⟨_, rfl, k⟩, fun c => absurd (nI_le (Nat.le_refl _) (by omega)) c⟩
  | mm + 1, q, hq => by
    have hn := V.1
    have iq : ix (nI q) = q := nI_clamp (by omega)
    have ip : ix (nI p) = p := nI_clamp (by omega)
    obtain ⟨a1, a2, a3, a4, a5⟩ := Q.2 q (by omega)
    obtain ⟨b1, b2, b3, b4, b5⟩ := Q.2 p hp
    have ih := c81 (l2 := l2) hP S V Q hp hm hf k mm (q + 1) (by omega)
    have w24 : ∀ j, j < 100 → vp_in (nI j) (jLen h 24 0) := fun j hj => by rw [S.n41]; exact vp_in_nI hj (by decide)
    have w18 : ∀ j, j < 100 → vp_in (nI j) (jLen h 21 18) := fun j hj => by rw [S.n42]; exact vp_in_nI hj (by decide)
    have hs : sonN mn pr f (q + 1) = sonN mn pr f q + (if mn q = true ∧ faO pr q = some f then 1 else 0) := rfl
    refine v208_81 hP 0 (nI p) l2 _ (nI q) h ⟨fun c => absurd c (nI_ge (show q < p by omega) (by omega)), fun _ => dr_of S.r41 ⟨w24 p (by omega), fun c => ?_, fun _ => dr_of S.r42 ⟨w18 p (by omega), fun c => ?_, fun _ => dr_of S.r41 ⟨w24 q (by omega), fun c => ?_, fun c => dr_of S.r42 ⟨w18 q (by omega), dr_of S.r42 ⟨w18 p (by omega), fun c2 => ?_, fun c2 => ?_⟩⟩⟩⟩⟩⟩
    · rw [ip, b1, hm] at c; exact absurd c (by decide)
    · rw [ip, b2, hf] at c; exact absurd c (nI_m1 (fa30 V hp f hf))
    · rw [iq, a1, bi_z] at c
      rw [hs, if_neg (fun z => by rw [z.1] at c; cases c)] at ih
      rw [nI_1, Int32.add_zero]; exact ih
    · rw [iq, ip, a2, b2, mR_eq (fa30 V (by omega)) (fa30 V hp), hf] at c2
      rw [hs, if_neg (fun z => c2 z.2)] at ih
      rw [nI_1, Int32.add_zero]; exact ih
    · rw [iq, a1, bi_ne] at c
      rw [iq, ip, a2, b2, mR_eq (fa30 V (by omega)) (fa30 V hp), hf] at c2
      rw [hs, if_pos ⟨c, Classical.not_not.mp c2⟩] at ih
      rw [nI_1, nI_1]; exact ih
/-- generations -/
theorem c151 {d : Nat} {l1 l2 : Int32} {h : Hp} {K : Int32 → Hp → Prop} {P : Nat → List AV → List AV → Hp → Prop} (hP : Cl (Call d) 208 (fun v h' => ∃ x, v = some (vI x) ∧ K x h') P) (S : RSh h) (V : PsV n mn pr sd mr ns) (Q : PeR h n mn pr sd mr) : ∀ (f q g : Nat), q < f → q < n → K (nI (g + gnF pr f q)) h → P 151 [vR 11 (some 0), vI l1, vI l2, vI (nI g), vI (nI q)] [] h
  | 0, q, g, h1, _, _ => by omega
  | f + 1, q, g, h1, h2, k => by
    have hn := V.1
    have iq : ix (nI q) = q := nI_clamp (by omega)
    obtain ⟨a1, a2, a3, a4, a5⟩ := Q.2 q h2
    have w18 : vp_in (nI q) (jLen h 21 18) := by rw [S.n42]; exact vp_in_nI (by omega) (by decide)
    unfold gnF at k
    refine v208_151 hP 0 l1 l2 (nI g) (nI q) h (dr_of S.r42 ⟨w18, fun c => ⟨_, rfl, ?_⟩, fun c => dr_of S.r42 ⟨w18, ?_⟩⟩)
    · rw [iq, a2] at c
      have hf : faO pr q = none := (mR_eq (b := none) (fa30 V h2) (fun i z => by cases z)).mp c
      rw [hf] at k
      exact k
    · rw [iq, a2] at c ⊢
      cases hf : faO pr q with
      | none => rw [hf] at c; exact absurd rfl c
      | some j =>
        rw [hf] at k
        have hj := (fa_v V h2 hf).1
        rw [nI_1]
        refine c151 hP S V Q f j (g + 1) (by omega) (by omega) ?_
        rw [show g + 1 + gnF pr f j = g + (gnF pr f j + 1) by omega]
        exact k
/-- children -/
theorem c190 {d p : Nat} {l2 : Int32} {h : Hp} {K : Int32 → Hp → Prop} {P : Nat → List AV → List AV → Hp → Prop} (hP : Cl (Call d) 208 (fun v h' => ∃ x, v = some (vI x) ∧ K x h') P) (S : RSh h) (V : PsV n mn pr sd mr ns) (Q : PeR h n mn pr sd mr) (hp : p < n) (k : K (nI (kidN pr p n)) h) : ∀ mm q, q + mm = n → P 190 [vR 11 (some 0), vI (nI p), vI l2, vI (nI (kidN pr p q)), vI (nI q)] [] h
  | 0, q, hq => by
    have hqp : q = n := by omega
    subst hqp
    have hn := V.1
    exact v208_190 hP 0 (nI p) l2 _ (nI q) h ⟨fun _ => ⟨_, rfl, k⟩, fun c => absurd (by rw [Q.1]; exact nI_le (Nat.le_refl _) (by omega)) c⟩
  | mm + 1, q, hq => by
    have hn := V.1
    have iq : ix (nI q) = q := nI_clamp (by omega)
    obtain ⟨a1, a2, a3, a4, a5⟩ := Q.2 q (by omega)
    have ih := c190 (l2 := l2) hP S V Q hp k mm (q + 1) (by omega)
    have hs : kidN pr p (q + 1) = kidN pr p q + (if faO pr q = some p ∨ moO pr q = some p then 1 else 0) := rfl
    have mo30 : ∀ m, moO pr q = some m → m < 2 ^ 30 := fun m e => by
      have := (mo_v V (show q < n by omega) e).1
      omega
    have p30 : ∀ i, some p = some i → i < 2 ^ 30 := fun i e => by have := Option.some.inj e; omega
    refine v208_190 hP 0 (nI p) l2 _ (nI q) h ⟨fun c => absurd (by rw [Q.1] at c; exact c) (nI_ge (show q < n by omega) (by omega)), fun _ => dr_of S.r42 ⟨by rw [S.n42]; exact vp_in_nI (by omega) (by decide), fun c => ?_, fun c => dr_of S.r43 ⟨by rw [S.n43]; exact vp_in_nI (by omega) (by decide), fun c2 => ?_, fun c2 => ?_⟩⟩⟩
    · rw [iq, a2, ← mR_s p, mR_eq (fa30 V (by omega)) p30] at c
      rw [hs, if_pos (Or.inl c)] at ih
      rw [nI_1, nI_1]; exact ih
    · rw [iq, a2, ← mR_s p, mR_eq (fa30 V (by omega)) p30] at c
      rw [iq, a3, ← mR_s p, mR_eq mo30 p30] at c2
      rw [hs, if_neg (fun z => by rcases z with z | z; exact c z; exact c2 z)] at ih
      rw [nI_1, Int32.add_zero]; exact ih
    · rw [iq, a3, ← mR_s p, mR_eq mo30 p30] at c2
      rw [hs, if_pos (Or.inr (Classical.not_not.mp c2))] at ih
      rw [nI_1, nI_1]; exact ih
/-- family(p, what) -/
theorem s208 {d : Nat} {x w : Int32} {h : Hp} {K : Int32 → Hp → Prop} (S : RSh h) (V : PsV n mn pr sd mr ns) (Q : PeR h n mn pr sd mr) (k0 : (∀ j, j < n → ¬ x = nI j) → K (-1) h) (k1 : ∀ p, p < n → x = nI p → ∀ h', EqX XKa h h' → K (faS mn pr sd mr n p w) h') : CI (d + 3) 208 [vR 11 (some 0), vI x, vI w] h K := by
  intro P hP
  have hn := V.1
  refine v208 hP 0 x w h (s206 Q.1 V.1 (fun hno => ⟨fun c => absurd rfl c, fun _ => ⟨_, rfl, k0 hno⟩⟩) (fun p hp e => ?_))
  subst e
  have k2 := fun h' => k1 p hp rfl h'
  unfold faS at k2
  have ip : ix (nI p) = p := nI_clamp (by omega)
  have w100 : ∀ g : Hp, ∀ a : Nat, jLen g 21 a = 100 → vp_in (nI p) (jLen g 21 a) := fun g a e => by rw [e]; exact vp_in_nI (by omega) (by decide)
  obtain ⟨b1, b2, b3, b4, b5⟩ := Q.2 p hp
  refine ⟨fun _ => ⟨fun c0 => ?_, fun c0 => ⟨fun c1 => ?_, fun c1 => ⟨fun c2 => ?_, fun c2 => ⟨fun c3 => ?_, fun c3 => ⟨fun c4 => ?_, fun c4 => ⟨fun c5 => ?_, fun c5 => ⟨fun c6 => ?_, fun c6 => ?_⟩⟩⟩⟩⟩⟩⟩, fun c => absurd (by decide) c⟩
  · refine s209 S V Q hp (fun h' E T => ?_)
    have S1 := E.sh S
    refine dr_of S1.r47 ⟨w100 _ _ S1.n47, _, rfl, ?_⟩
    have t := (T p (Nat.le_refl _)).2.1
    rw [← qT_lt (p := n) hp] at t
    rw [ip, t]
    have := k2 h' E
    rw [if_pos c0] at this
    exact this
  · refine s211 S V Q hp ⟨fun z => ⟨_, rfl, ?_⟩, fun z => ⟨_, rfl, ?_⟩⟩
    · have := k2 h (EqX.refl _ h)
      rw [if_neg c0, if_pos c1, z] at this
      exact this
    · have := k2 h (EqX.refl _ h)
      rw [bi_ne] at z
      rw [if_neg c0, if_pos c1, z] at this
      exact this
  · have := k2 h (EqX.refl _ h)
    rw [if_neg c0, if_neg c1, if_pos c2] at this
    unfold mkN at this
    by_cases hm : mn p = true
    · rw [if_pos hm] at this
      cases hf : faO pr p with
      | none =>
        rw [hf] at this
        refine v208_81 hP 0 (nI p) w 0 0 h ⟨fun _ => ⟨_, rfl, this⟩, fun _ => dr_of S.r41 ⟨by rw [S.n41]; exact vp_in_nI (by omega) (by decide), fun _ => ⟨_, rfl, this⟩, fun _ => dr_of S.r42 ⟨w100 _ _ S.n42, fun _ => ⟨_, rfl, this⟩, fun c => ?_⟩⟩⟩
        rw [ip, b2, hf] at c
        exact absurd rfl c
      | some f =>
        rw [hf] at this
        exact c81 (q := 0) hP S V Q hp hm hf this p (by omega)
    · rw [if_neg hm] at this
      refine v208_81 hP 0 (nI p) w 0 0 h ⟨fun _ => ⟨_, rfl, this⟩, fun _ => dr_of S.r41 ⟨by rw [S.n41]; exact vp_in_nI (by omega) (by decide), fun _ => ⟨_, rfl, this⟩, fun c => ?_⟩⟩
      rw [ip, b1, bi_ne] at c
      exact absurd c hm
  · have := k2 h (EqX.refl _ h)
    rw [if_neg c0, if_neg c1, if_neg c2, if_pos c3] at this
    refine c151 (g := 0) hP S V Q 100 p (by omega) hp ?_
    rw [Nat.zero_add]
    exact this
  · have := k2 h (EqX.refl _ h)
    rw [if_neg c0, if_neg c1, if_neg c2, if_neg c3, if_pos c4] at this
    refine dr_of S.r45 ⟨w100 _ _ S.n45, _, rfl, ?_⟩
    rw [ip, b5]
    exact this
  · have := k2 h (EqX.refl _ h)
    rw [if_neg c0, if_neg c1, if_neg c2, if_neg c3, if_neg c4, if_pos c5] at this
    exact c190 (q := 0) hP S V Q hp this n (by omega)
  · have h100 : ¬ w < 100 := fun z => by
      rw [Int32.lt_iff_toInt_lt] at z
      rw [Int32.le_iff_toInt_le] at c6
      omega
    refine s209 S V Q hp (fun h' E T => ?_)
    have S1 := E.sh S
    have t := T p (Nat.le_refl _)
    rw [← qT_lt (p := n) hp] at t
    obtain ⟨t1, t2, t3⟩ := t
    have kk := k2 h' E
    rw [if_neg c0, if_neg c1, if_neg c2, if_neg c3, if_neg c4, if_neg c5, if_neg h100] at kk
    generalize qT mn pr sd n n p = l at *
    obtain ⟨u, hu⟩ : ∃ u : Nat, u + 100 < 2 ^ 31 ∧ w = nI (u + 100) := by
      obtain ⟨j, hj, ej⟩ := nI_of (x := w) (fun z => by
        rw [Int32.lt_iff_toInt_lt] at z h100
        have e0 : (0 : Int32).toInt = 0 := by decide
        have e1 : (100 : Int32).toInt = 100 := by decide
        omega)
      refine ⟨j - 100, ?_⟩
      have : 100 ≤ j := by
        rcases Nat.lt_or_ge j 100 with y | y
        · exact absurd (by rw [ej]; exact nI_lt (b := 100) y (by decide)) h100
        · exact y
      rw [show j - 100 + 100 = j by omega]
      exact ⟨hj, ej⟩
    obtain ⟨hu1, hu2⟩ := hu
    subst hu2
    have e1 : nI (u + 100) - 100 = nI u := nI_sub (a := u) (b := 100)
    have e2 : (32 : Int32) * nI p + nI (u + 100) - 100 = nI (32 * p + u) := by
      rw [q32, show 32 * p + (u + 100) = (32 * p + u) + 100 by omega]
      exact nI_sub (a := 32 * p + u) (b := 100)
    rw [e1] at kk
    unfold qAt at kk
    rw [if_neg (nI_pos (by omega))] at kk
    refine dr_of S1.r47 ⟨w100 _ _ S1.n47, fun c => ⟨_, rfl, ?_⟩, fun c => ?_⟩
    · rw [ip, t2, e1] at c
      rw [if_pos c] at kk
      exact kk
    · rw [ip, t2, e1] at c
      have hlt : u < l.length := by
        rcases Nat.lt_or_ge u l.length with y | y
        · exact y
        · exact absurd (nI_le y (by omega)) c
      have iu : ix (nI u) = u := nI_clamp (by omega)
      rw [if_neg c, iu] at kk
      rw [e2]
      refine dr_of S1.r46 ⟨by rw [S1.n46]; exact vp_in_nI (by omega) (by decide), _, rfl, ?_⟩
      have hg : l[u]? = some (l.getD u 0) := by
        rw [List.getD_eq_getElem?_getD, List.getElem?_eq_getElem hlt]; rfl
      rw [show ix (nI (32 * p + u)) = 32 * p + u from nI_clamp (by omega), t3 u _ hg]
      exact kk
  · have h100 : w < 100 := by
      rw [Int32.lt_iff_toInt_lt]
      rw [Int32.le_iff_toInt_le] at c6
      omega
    have := k2 h (EqX.refl _ h)
    rw [if_neg c0, if_neg c1, if_neg c2, if_neg c3, if_neg c4, if_neg c5, if_pos h100] at this
    exact ⟨_, rfl, this⟩
end
