section
variable {d n k pl kind m : Nat} {tx : Nat → Int32} {H : Hp} {sh : Nat → Int32} {K : Int32 → Hp → Prop} {P : Nat → List AV → List AV → Hp → Prop}
/-- the duties -/
theorem c173 (hP : Cl (Call (d + 3)) 148 (fun v h' => ∃ x, v = some (vI x) ∧ K x h') P) (S : RSh H) (hk : k ≤ 60) (hpl : pl < 7) (h16 : 16 ≤ kind) (h29 : kind ≤ 29) {l1 l2 l5 l6 : Int32} : ∀ (mm t : Nat) (r : Nat → Int32) (h : Hp) (p : Nat), t + mm = 5 → RtN (rowH H k (putS sh pl r)) h 0 1 n tx p → (∀ sh' h' p', dutS (kd tx n) (np tx n) kind mm t p r = (none, p') → RtN (rowH H k sh') h' 0 1 n tx p' → K 0 h') → (∀ r' h' p', dutS (kd tx n) (np tx n) kind mm t p r = (some r', p') → RtN (rowH H k (putS sh pl r')) h' 0 1 n tx p' → K 1 h') → P 173 [vR 11 (some 0), vI l1, vI l2, vI (nI kind), vI (nI (63 * k + 9 * pl)), vI l5, vI l6, vI (nI t)] [] h
  | 0, t, r, h, p, ht, R, k0, k1 => by
    exact v148_173 hP 0 l1 l2 (nI kind) (nI (63 * k + 9 * pl)) l5 l6 (nI t) h ⟨fun _ => ⟨_, rfl, k1 r h p rfl R⟩, fun c => absurd (nI_le (a := 5) (by omega) (by omega)) c⟩
  | mm + 1, t, r, h, p, ht, R, k0, k1 => by
    have SR : RSh h := S.of R.R R.len
    unfold dutS at k0 k1
    refine v148_173 hP 0 l1 l2 (nI kind) (nI (63 * k + 9 * pl)) l5 l6 (nI t) h ⟨fun c => absurd c (nI_ge (b := 5) (by omega) (by omega)), fun _ => s153 h16 h29 (by omega) ⟨fun c => ?_, fun c => ?_⟩⟩
    · have c2 : ¬ haD kind t = true := by
        intro z; rw [z] at c; exact absurd c (by decide)
      rw [if_neg (fun z => c2 z.1)] at k0 k1
      rw [nI_1]
      exact c173 hP S hk hpl h16 h29 mm (t + 1) r h p (by omega) R k0 k1
    · have c2 : haD kind t = true := by
        cases hh : haD kind t with
        | true => rfl
        | false => rw [hh] at c; exact absurd rfl c
      refine s154 (by omega) (by omega) (s134 R (all_r dut_w (by omega)) (fun c3 h3 R3 => ?_) (fun c3 => ?_))
      · rw [if_pos ⟨c2, c3⟩] at k0 k1
        have S3 : RSh h3 := S.of R3.R R3.len
        have eI : nI (63 * k + 9 * pl) + 4 + nI t = nI (63 * k + (9 * pl + (4 + t))) := by
          show nI (63 * k + 9 * pl) + nI 4 + nI t = _
          rw [nI_add, nI_add]; congr 1; omega
        have ic : ix (nI (63 * k + (9 * pl + (4 + t)))) = 63 * k + (9 * pl + (4 + t)) := nI_clamp (by omega)
        rw [eI, ic]
        refine ⟨fun _ => s130 R3 (fun c4 => ?_) (fun c4 h4 R4 => ?_), fun z => absurd (by decide) z⟩
        · rw [if_neg c4] at k0
          have R5 := R3.part (i := 4 + t) (-1) hpl (by omega)
          exact dr_of S3.r15 ⟨vp3843 hk hpl (by omega) S3.n15, dr_of S3.r15 ⟨vp3843 hk hpl (by omega) S3.n15, fun z => absurd (jI_same _ _ _ _ _) z, fun _ => ⟨_, rfl, k0 _ _ _ rfl R5⟩⟩⟩
        · rw [if_pos c4] at k0 k1
          have S4 : RSh h4 := S.of R4.R R4.len
          have R5 := R4.part (i := 4 + t) (nI (kd tx n (np tx n p))) hpl (by omega)
          refine dr_of S3.r15 ⟨vp3843 hk hpl (by omega) S4.n15, dr_of S4.r15 ⟨vp3843 hk hpl (by omega) S4.n15, fun _ => ?_, fun z => absurd (by rw [jI_same]; exact nI_m1 (by omega)) z⟩⟩
          rw [nI_1]
          exact c173 hP S hk hpl h16 h29 mm (t + 1) _ _ _ (by omega) R5 k0 k1
      · rw [if_neg (fun z => c3 z.2)] at k0 k1
        refine ⟨fun z => absurd rfl z, fun _ => ?_⟩
        rw [nI_1]
        exact c173 hP S hk hpl h16 h29 mm (t + 1) r h p (by omega) R k0 k1
/-- the tincture, then the duties -/
theorem c130 (hP : Cl (Call (d + 3)) 148 (fun v h' => ∃ x, v = some (vI x) ∧ K x h') P) (S : RSh H) (hk : k ≤ 60) (hpl : pl < 7) (h16 : 16 ≤ kind) (h29 : kind ≤ 29) {l1 l2 l5 l6 : Int32} {r : Nat → Int32} {g g0 : Hp} {p : Nat} (hg : jR g0 = jR H) (R : RtN (rowH H k (putS sh pl r)) g 0 1 n tx p) (k0 : ∀ sh' h' p', chg2 (kd tx n) (np tx n) kind p r = (none, p') → RtN (rowH H k sh') h' 0 1 n tx p' → K 0 h') (k1 : ∀ r' h' p', chg2 (kd tx n) (np tx n) kind p r = (some r', p') → RtN (rowH H k (putS sh pl r')) h' 0 1 n tx p' → K 1 h') : CI (d + 3) 130 [vR 11 (some 0)] g (fun x4 h3 => dr (jR g0 11 0 15) (fun a5 => vp_in (nI (63 * k + 9 * pl) + 1) (jLen h3 21 a5) ∧ (dr (jR (wI h3 21 a5 (ix (nI (63 * k + 9 * pl) + 1)) x4) 11 0 15) (fun a6 => vp_in (nI (63 * k + 9 * pl) + 1) (jLen (wI h3 21 a5 (ix (nI (63 * k + 9 * pl) + 1)) x4) 21 a6) ∧ ((¬ jI (wI h3 21 a5 (ix (nI (63 * k + 9 * pl) + 1)) x4) 21 a6 (ix (nI (63 * k + 9 * pl) + 1)) = (-1) → P 173 [vR 11 (some 0), vI l1, vI l2, vI (nI kind), vI (nI (63 * k + 9 * pl)), vI l5, vI l6, vI 0] [] (wI h3 21 a5 (ix (nI (63 * k + 9 * pl) + 1)) x4)) ∧ (¬ (¬ jI (wI h3 21 a5 (ix (nI (63 * k + 9 * pl) + 1)) x4) 21 a6 (ix (nI (63 * k + 9 * pl) + 1)) = (-1)) → (fun v h' => ∃ x, v = some (vI x) ∧ K x h') (some (vI 0)) (wI h3 21 a5 (ix (nI (63 * k + 9 * pl) + 1)) x4))))))) := by
  have eI : nI (63 * k + 9 * pl) + 1 = nI (63 * k + (9 * pl + 1)) := by rw [nI_1]; congr 1
  have ic : ix (nI (63 * k + (9 * pl + 1))) = 63 * k + (9 * pl + 1) := nI_clamp (by omega)
  rw [eI, ic]
  have e15 : jR g0 11 0 15 = some 3 := by rw [hg]; exact S.r15
  unfold chg2 at k0 k1
  refine s130 R (fun c4 => ?_) (fun c4 h4 R4 => ?_)
  · rw [if_neg c4] at k0
    have SR : RSh g := S.of R.R R.len
    have R5 := R.part (i := 1) (-1) hpl (by omega)
    exact dr_of e15 ⟨vp3843 hk hpl (by omega) SR.n15, dr_of SR.r15 ⟨vp3843 hk hpl (by omega) SR.n15, fun z => absurd (jI_same _ _ _ _ _) z, fun _ => ⟨_, rfl, k0 _ _ _ rfl R5⟩⟩⟩
  · rw [if_pos c4] at k0 k1
    have S4 : RSh h4 := S.of R4.R R4.len
    have R5 := R4.part (i := 1) (nI (kd tx n p)) hpl (by omega)
    exact dr_of e15 ⟨vp3843 hk hpl (by omega) S4.n15, dr_of S4.r15 ⟨vp3843 hk hpl (by omega) S4.n15, fun _ => c173 (t := 0) hP S hk hpl h16 h29 5 _ _ _ rfl R5 k0 k1, fun z => absurd (by rw [jI_same]; exact nI_m1 (by omega)) z⟩⟩
/-- the attitude, among those from lo to hi -/
theorem c91 (hP : Cl (Call (d + 3)) 148 (fun v h' => ∃ x, v = some (vI x) ∧ K x h') P) (S : RSh H) (hk : k ≤ 60) (hpl : pl < 7) (h16 : 16 ≤ kind) (h29 : kind ≤ 29) {l1 l2 l5 : Int32} {hi : Nat} (hhi : hi ≤ 5) {p : Nat} : ∀ (mm t : Nat) (r : Nat → Int32) (h : Hp), t + mm = hi + 1 → 1 ≤ t → RtN (rowH H k (putS sh pl r)) h 0 1 n tx p → (r 3 = 0 ∨ (r 3 = nI (kd tx n p - 59) ∧ 60 ≤ kd tx n p ∧ kd tx n p < 59 + t)) → (r 3 = 0 → ¬ (59 + t ≤ kd tx n p ∧ kd tx n p ≤ 59 + hi) → ∀ h', RtN (rowH H k (putS sh pl r)) h' 0 1 n tx p → K 0 h') → (∀ r', ((r 3 ≠ 0 ∧ r' = r) ∨ (r 3 = 0 ∧ 59 + t ≤ kd tx n p ∧ kd tx n p ≤ 59 + hi ∧ r' = st r 3 (nI (kd tx n p - 59)))) → (∀ sh' h' p', chg2 (kd tx n) (np tx n) kind (np tx n p) r' = (none, p') → RtN (rowH H k sh') h' 0 1 n tx p' → K 0 h') ∧ (∀ r2 h' p', chg2 (kd tx n) (np tx n) kind (np tx n p) r' = (some r2, p') → RtN (rowH H k (putS sh pl r2)) h' 0 1 n tx p' → K 1 h')) → P 91 [vR 11 (some 0), vI l1, vI l2, vI (nI kind), vI (nI (63 * k + 9 * pl)), vI l5, vI (nI hi), vI (nI t)] [] h
  | 0, t, r, h, ht, h1, R, hr, k0, k1 => by
    have SR : RSh h := S.of R.R R.len
    have eI : nI (63 * k + 9 * pl) + 3 = nI (63 * k + (9 * pl + 3)) := by
      show nI (63 * k + 9 * pl) + nI 3 = _
      rw [nI_add]; congr 1
    have ic : ix (nI (63 * k + (9 * pl + 3))) = 63 * k + (9 * pl + 3) := nI_clamp (by omega)
    refine v148_91 hP 0 l1 l2 (nI kind) (nI (63 * k + 9 * pl)) l5 (nI hi) (nI t) h ⟨fun _ => ?_, fun c => absurd (nI_lt (by omega) (by omega)) c⟩
    rw [eI, ic]
    refine dr_of SR.r15 ⟨vp3843 hk hpl (by omega) SR.n15, fun c => ?_, fun c => ⟨_, rfl, ?_⟩⟩
    · rw [R.partR hpl (by omega)] at c
      have kk := k1 r (Or.inl ⟨c, rfl⟩)
      exact s125n R (fun h2 R2 => c130 hP S hk hpl h16 h29 R2.R R2 kk.1 kk.2)
    · rw [R.partR hpl (by omega)] at c
      exact k0 (Classical.not_not.mp c) (by omega) h R
  | mm + 1, t, r, h, ht, h1, R, hr, k0, k1 => by
    have SR : RSh h := S.of R.R R.len
    have eI : nI (63 * k + 9 * pl) + 3 = nI (63 * k + (9 * pl + 3)) := by
      show nI (63 * k + 9 * pl) + nI 3 = _
      rw [nI_add]; congr 1
    have ic : ix (nI (63 * k + (9 * pl + 3))) = 63 * k + (9 * pl + 3) := nI_clamp (by omega)
    refine v148_91 hP 0 l1 l2 (nI kind) (nI (63 * k + 9 * pl)) l5 (nI hi) (nI t) h ⟨fun c => absurd c (nI_nlt (by omega) (by omega)), fun _ => s151 R.2 h1 (by omega) ⟨fun c => ?_, fun c => ?_⟩⟩
    · have c := bi0.mp c
      rw [nI_1]
      refine c91 hP S hk hpl h16 h29 hhi mm (t + 1) r h (by omega) (by omega) R ?_ (fun z y => k0 z (by omega)) (fun r' z => k1 r' ?_)
      · rcases hr with z | z
        · exact Or.inl z
        · exact Or.inr ⟨z.1, z.2.1, by omega⟩
      · rcases z with z | z
        · exact Or.inl z
        · exact Or.inr ⟨z.1, by omega, z.2.2⟩
    · have c : kd tx n p = 59 + t := Classical.not_not.mp (fun y => c (bi0.mpr y))
      have h0 : r 3 = 0 := by
        rcases hr with z | z
        · exact z
        · omega
      rw [eI, ic, nI_1]
      have R2 := R.part (i := 3) (nI t) hpl (by omega)
      have nz : ¬ nI t = 0 := nI_ne0 (by omega) (by omega)
      have et : kd tx n p - 59 = t := by omega
      refine dr_of SR.r15 ⟨vp3843 hk hpl (by omega) SR.n15, c91 hP S hk hpl h16 h29 hhi mm (t + 1) _ _ (by omega) (by omega) R2 (Or.inr ⟨by rw [st_eq, et], by omega, by omega⟩) (fun z => absurd z (by rw [st_eq]; exact nz)) (fun r' z => k1 r' (Or.inr ⟨h0, by omega, by omega, ?_⟩))⟩
      rcases z with z | z
      · rw [z.2, et]
      · exact absurd z.1 (by rw [st_eq]; exact nz)
end
